section Loop
variable {p : Program} {l : Launch} {e : Env} {s : State} {m : MethodId} {below : List Frame} {meth : Method} {c : Code} {b L : Nat} {xs : Nat → Int32} {D : va_G} {cA : Nat → ClassId} {adr : Nat → Nat} {mc ms : Nat}
theorem l_bound {L j : Nat} (hL : L ≤ 3072) (hj : j ≤ 520) (c0 : ¬ Int32.ofNat L - 6 < nI (6 * j)) : 6 * j + 6 ≤ L := by
  by_cases L6 : 6 ≤ L
  · have e : Int32.ofNat L - 6 = nI (L - 6) := nI_sub L6
    rw [e] at c0
    by_cases q : 6 * j ≤ L - 6
    · omega
    · exact absurd (nI_lt (a := L - 6) (b := 6 * j) (by omega) (by omega)) c0
  · refine absurd ?_ c0
    rw [Int32.lt_iff_toInt_lt, nI_toInt (n := 6 * j) (by omega)]
    have : L = 0 ∨ L = 1 ∨ L = 2 ∨ L = 3 ∨ L = 4 ∨ L = 5 := by omega
    rcases this with rfl | rfl | rfl | rfl | rfl | rfl
    · have : (Int32.ofNat 0 - 6).toInt = -6 := by decide
      omega
    · have : (Int32.ofNat 1 - 6).toInt = -5 := by decide
      omega
    · have : (Int32.ofNat 2 - 6).toInt = -4 := by decide
      omega
    · have : (Int32.ofNat 3 - 6).toInt = -3 := by decide
      omega
    · have : (Int32.ofNat 4 - 6).toInt = -2 := by decide
      omega
    · have : (Int32.ofNat 5 - 6).toInt = -1 := by decide
      omega
theorem law_loop (X : Lc p s m meth c b L xs D cA adr) (hL : L ≤ 3072) (hmc : mc ≤ 600000) (hms : ms ≤ 7302250) : ∀ (N j : Nat) (h : AH), 520 - j = N → j ≤ 520 → Inv h → LWs p l e s m below meth c b D cA adr mc ms 18 [] (nI (6 * j)) h := by
  intro N
  induction N using Nat.strongRecOn with
  | ind N ih =>
    intro j h hN hj I H locs ls hP hS hl
    refine lv_iload_n X.1.1 X.1.2.1 dL_law_18 rfl (lv_at hl 0 rfl) ?_
    refine lv_aload_n X.1.1 X.1.2.1 dL_law_19 rfl (lv_at hl 3 rfl) ?_
    refine va_slen X.1.1 X.1.2.1 X.2.2.2.2.2.1 X.2.2.2.2.2.2.1 X.nb hS dL_law_20 ?_
    refine lv_bipush (v := 6) X.1.1 X.1.2.1 dL_law_21 (by decide) ?_
    refine lv_isub X.1.1 X.1.2.1 dL_law_23 ?_
    refine lv_icmp_gt (tgt := 1012) X.1.1 X.1.2.1 dL_law_24 (by decide) (fun c0 => ?_) (fun c0 => ?_)
    · refine lv_iconst (v := 1) X.1.1 X.1.2.1 dL_law_1012 (by decide) ?_
      refine va_forget (fun q hq => ?_) ?_
      · obtain ⟨k, hk, ek⟩ := hS.2.2 q hq
        rw [ek]
        exact X.2.2.2.2.2.2.2 k hk
      · refine W.widen (k := 600000) (n := 7302250) hmc hms ?_
        exact lw_ret X.1.1 X.1.2.1 X.2.1 X.2.2.1 dL_law_1013
    · have h6 := l_bound hL hj c0
      have hin : vp_in (nI (6 * j)) L := nI_in (by omega) (by omega)
      refine lv_aload_n X.1.1 X.1.2.1 dL_law_27 rfl (lv_at hl 3 rfl) ?_
      refine lv_iload_n X.1.1 X.1.2.1 dL_law_28 rfl (lv_at hl 0 rfl) ?_
      refine va_sld X.1.1 X.1.2.1 X.2.2.2.2.2.1 X.2.2.2.2.2.2.1 X.nb hS hin dL_law_29 ?_
      refine lv_bipush (v := 31) X.1.1 X.1.2.1 dL_law_30 (by decide) ?_
      refine lv_iand X.1.1 X.1.2.1 dL_law_32 ?_
      obtain ⟨k, hk, ek⟩ := and31 (xs (nI (6 * j)).toNatClampNeg)
      rw [ek]
      refine l_switch hk X (fun a h1 h5 => ?_) I hmc hms (fun h2 I2 H2 locs2 ls2 hP2 hS2 hl2 => ?_) H locs ls hP hS hl
      · have a0 : ¬ a < 0 := fun q => by
          rw [Int32.lt_iff_toInt_lt] at q
          rw [Int32.le_iff_toInt_le] at h1
          have e0 : (0 : Int32).toInt = 0 := rfl
          have e1 : (1 : Int32).toInt = 1 := rfl
          omega
        obtain ⟨t, ht, rfl⟩ := nI_of a0
        have t5 : t ≤ 5 := by
          by_cases q : t ≤ 5
          · exact q
          · exact absurd h5 (nI_ge (a := 5) (b := t) (by omega) ht)
        rw [nI_add]
        exact nI_in (by omega) (by omega)
      · refine lv_iinc (v := nI (6 * (j + 1))) (lv' := [(3, .int (nI (6 * (j + 1)))), (2, .ref (adr 75)), (1, .ref (adr 0)), (0, .ref b)]) X.1.1 X.1.2.1 dL_law_1006 hl2 (k := 0) rfl ?_ (by decide) rfl (fun ls3 hl3 => ?_)
        · rw [show Int32.ofInt 6 = nI 6 from rfl, nI_add]
          rfl
        · refine lv_goto (tgt := 18) X.1.1 X.1.2.1 dL_law_1009 (by decide) ?_
          exact ih (520 - (j + 1)) (by omega) (j + 1) h2 rfl (by omega) I2 H2 locs2 ls3 hP2 hS2 hl3
end Loop
