set_option maxHeartbeats 4000000 in
set_option maxRecDepth 100000 in
theorem whole_start {p : Program} {e : Env} {s : State} {m : MethodId} {below : List Frame} {meth : Method} {c : Code} (l : Launch) (hflags : l.flags = flags0) {b L : Nat} {xs : Nat → Int32} (hL : L ≤ 3072) (C0 : lw_At p s m meth c b L xs) : W p l e room_1 s m #[Value.ref b] below meth c s.heap [] 0 0 (lw_Z below #[Value.ref b] s) (entryFrame m ([Value.ref b] : List Value).toArray 4) := by
  obtain ⟨hx, hb, hr, hml, hown, hts, hX, hbl, hlocks, hgv⟩ := id C0
  have hg : ∀ w ∈ gtbl, w.before #[Value.ref b] s = true := fun w hw => hts w (List.mem_filter.mp hw).1
  have hN : ∀ w ∈ nestw, va_Nw w s := fun w hw => va_Nw.of (nestw_on w hw) (hts w (nestw_in w hw))
  have hs := flat_of_before _ hgv
  obtain ⟨c0, i0, k0⟩ := u_known (C := RX0) (T := TX0) (N := 4) (n := 4) hg cin0 (hg _ insX0)
  obtain ⟨c1, i1, k1⟩ := u_known (C := RX1) (T := TX1) (N := 6) (n := 6) hg cin1 (hg _ insX1)
  obtain ⟨c2, i2, k2⟩ := u_known (C := RX2) (T := TX2) (N := 5) (n := 5) hg cin2 (hg _ insX2)
  obtain ⟨c3, i3, k3⟩ := u_known (C := RX3) (T := TX3) (N := 3) (n := 3) hg cin3 (hg _ insX3)
  obtain ⟨c4, i4, k4⟩ := u_known (C := RX4) (T := TX4) (N := 11) (n := 11) hg cin4 (hg _ insX4)
  obtain ⟨c5, i5, k5⟩ := u_known (C := RX5) (T := TX5) (N := 3) (n := 3) hg cin5 (hg _ insX5)
  obtain ⟨c6, i6, k6⟩ := u_known (C := RX6) (T := TX6) (N := 8) (n := 8) hg cin6 (hg _ insX6)
  obtain ⟨c7, i7, k7⟩ := u_known (C := RX7) (T := TX7) (N := 2) (n := 2) hg cin7 (hg _ insX7)
  obtain ⟨c8, i8, k8⟩ := u_known (C := RX8) (T := TX8) (N := 5) (n := 5) hg cin8 (hg _ insX8)
  obtain ⟨c9, i9, k9⟩ := u_known (C := RX9) (T := TX9) (N := 5) (n := 5) hg cin9 (hg _ insX9)
  obtain ⟨c10, i10, k10⟩ := u_known (C := RX10) (T := TX10) (N := 6) (n := 6) hg cin10 (hg _ insX10)
  obtain ⟨c11, i11, k11⟩ := u_known (C := RX11) (T := TX11) (N := 16) (n := 16) hg cin11 (hg _ insX11)
  obtain ⟨c12, i12, k12⟩ := u_known (C := RX12) (T := TX12) (N := 65) (n := 65) hg cin12 (hg _ insX12)
  obtain ⟨D, hKc⟩ : ∃ D : va_G, ∀ (k : Nat) (q : vw_C), classes[k]? = some q → u_Kn s q.1 q.2.1 q.2.2 (D.1 k) (D.2 k) := by
    refine ⟨(fun k => [c0, c1, c2, c3, c4, c5, c6, c7, c8, c9, c10, c11, c12].getD k c0, fun k => [i0, i1, i2, i3, i4, i5, i6, i7, i8, i9, i10, i11, i12].getD k i0), ?_⟩
    intro k q hq
    match k, hq with
    | 0, hq => cases hq; exact k0
    | 1, hq => cases hq; exact k1
    | 2, hq => cases hq; exact k2
    | 3, hq => cases hq; exact k3
    | 4, hq => cases hq; exact k4
    | 5, hq => cases hq; exact k5
    | 6, hq => cases hq; exact k6
    | 7, hq => cases hq; exact k7
    | 8, hq => cases hq; exact k8
    | 9, hq => cases hq; exact k9
    | 10, hq => cases hq; exact k10
    | 11, hq => cases hq; exact k11
    | 12, hq => cases hq; exact k12
    | k + 13, hq => cases hq
  obtain ⟨cI, aI1, aI2⟩ := arr_of (hg _ ac_int)
  obtain ⟨cB, aB1, aB2⟩ := arr_of (hg _ ac_byte)
  obtain ⟨cJ, aJ1, aJ2⟩ := arr_of (hg _ ac_long)
  obtain ⟨cA, hcA0, hcA1, hcA2⟩ : ∃ cA : Nat → ClassId, cA 0 = cI ∧ cA 1 = cB ∧ cA 2 = cJ := ⟨fun k => if k = 0 then cI else if k = 1 then cB else cJ, rfl, rfl, rfl⟩
  have hK : va_K D classes (tysC cA) s := ⟨hKc, fun k q hq => by
    match k, hq with
    | 0, hq => cases hq; rw [hcA0]; exact ⟨aI2, aI1⟩
    | 1, hq => cases hq; rw [hcA1]; exact ⟨aB2, aB1⟩
    | 2, hq => cases hq; rw [hcA2]; exact ⟨aJ2, aJ1⟩
    | k + 3, hq => cases hq⟩
  obtain ⟨aK, aV, hStr, hEv⟩ := vk_Sof (args := #[Value.ref b]) (s := s) (N := 7) (tm := tmS) (len := lenS) (byt := bytS) (A := fun q => s.heap.size ≤ q) sw_len (fun i hi => hs _ (sw_ex i hi)) (fun i hi => hs _ (sw_co i hi)) (fun i hi => hs _ (sw_ar i hi)) (fun i hi => hs _ (sw_le i hi)) (fun i hi j hj => hs _ (sw_el i hi j hj)) (fun i j hi hj hne => (sw_ne i hi j hj hne).imp (hs _) (hs _)) (fun a ha h => by have : s.heap.size ≤ a := h; omega)
  have tl : tbl.length = 117 := by decide +kernel
  have hadr : ∀ k, k < tbl.length → adrW s.heap.size aK aV k = s.heap.size + k := fun k hk => by unfold adrW; rw [if_pos (by omega)]
  have hI2 : Inj (adrW s.heap.size aK aV) := fun i j hi hj e => by rw [hadr i hi, hadr j hj] at e; omega
  have hAw : ∀ q, Aw (adrW s.heap.size aK aV) q → s.heap.size ≤ q := fun q ⟨k, hk, e⟩ => by rw [e, hadr k hk]; omega
  have a200 : ∀ i, i < 7 → adrW s.heap.size aK aV (200 + i) = aK i := fun i hi => by unfold adrW; rw [if_neg (by omega), if_pos (by omega), Nat.add_sub_cancel_left]
  have a220 : ∀ i, i < 7 → adrW s.heap.size aK aV (220 + i) = aV i := fun i hi => by unfold adrW; rw [if_neg (by omega), if_neg (by omega), Nat.add_sub_cancel_left]
  have hWd : Wd D cA (adrW s.heap.size aK aV) s := by
    have h := hStr.narrow (B := Aw (adrW s.heap.size aK aV)) hAw
    refine ⟨hK, hN, ⟨fun i hi => ?_, fun i j hi hj e => h.2 i j hi hj (by rw [← a200 i hi, ← a200 j hj]; exact e)⟩, fun i hi => ?_, (va_Zof (A := fun q => s.heap.size ≤ q) (hts _ sw_lays) (hts _ sw_ini) (va_eqi (hs _ sw_comp)) (fun a ha h => by have : s.heap.size ≤ a := h; omega)).narrow hAw⟩
    · have := h.1 i hi
      dsimp only
      rw [a200 i hi, a220 i hi]
      exact this
    · rw [a200 i hi]
      exact vk_R.of (hts _ (sw_ref i hi)) (hEv i hi)
  have X : Lc p s m meth c b L xs D cA (adrW s.heap.size aK aV) := ⟨⟨hx, hb, hml, hown, hg⟩, hr, hlocks, hWd, hI2, hX, hbl, fun k hk => by rw [hadr k hk]; omega⟩
  have hl := lv_entry ([.ref b]) (n := 4) (Nat.le_of_ble_eq_true rfl)
  rw [lg_entry_eq]
  generalize (lg_sl ([.ref b]) ++ List.replicate (4 - (lg_sl ([.ref b])).length) Slot.unset).toArray = ls at hl ⊢
  have hl : lv_has ls 4 [(0, .ref b)] := hl
  -- new OneSlip()
  refine W.newcK hx hb hown (hg _ clL_7) (hg _ insX11) (hg _ iniX11) rfl dL_law_0 (Nat.le_of_ble_eq_true rfl) (Nat.le_of_ble_eq_true rfl) (hKc 11 _ rfl).2.1 rfl fun H1 kC hkC e1 z1 o1 => ?_
  have hP1 : va_P D classes (Lay s.heap.size [.inr (11, [.null, .null, .null, .int 0, .null, .null, .null, .null, .null, .null, .null, .null, .null, .null, .null, .null])]) H1 := lay_push (es := []) (H := s.heap) rfl (fun k q hk => by cases hk) o1 ⟨_, rfl, (u_born tyX11 hg cin11 (hKc 11 _ rfl) hkC e1 tyX11_ok).to (by decide +kernel)⟩
  have hS1 : va_S (fun q => s.heap.size ≤ q) s.heap H1 [] := ⟨by omega, fun x y1 _ => o1 x y1, fun _ h => by cases h⟩
  refine lv_dup hx hb dL_law_3 rfl ?_
  have key1 := va_runI (R := room_1) (p := p) (l := l) (e := e) (below := below) (meth := meth) (locs := []) (cells := 0 + 1) (slots := 0 + 16) (H := H1) (g := F0 m (0 + 3 + 1) ls [.ref s.heap.size, .ref s.heap.size]) (As := []) (rest := [.ref s.heap.size]) (b := s.heap.size) ⟨hx, hb, hml, hown, hg⟩ (ciX11 cA s.heap.size l D) ⟨callB_of 0 hg (gtbl_code mwX11_init.1) rfl rfl rfl (hg _ mwX11_init.2.1) (hg _ miL_9) mwX11_init.2.2.1 ⟨Nat.le_of_ble_eq_true rfl, Nat.le_of_ble_eq_true rfl⟩, rfl, hg _ imX11_init⟩ ⟨pcC_blind, fun U hU hW => ⟨rfl, va_K.moved hW.alike hK, nestw_all hW hN, by rw [hU]; exact z1, by rw [hU]; exact hP1⟩⟩ rfl rfl hl.1 rfl (lv_room (Nat.le_of_ble_eq_true rfl)) dL_law_4 ⟨Nat.le_of_ble_eq_true rfl, Nat.le_of_ble_eq_true rfl⟩
  refine va_callv key1 hS1 (fun q _ h => h) (fun q h => h) (fun u t H2 locs2 ht hvm _ hB hz2 hk2 hS2 => ?_)
  obtain ⟨b1, b2⟩ := hB
  rw [ht] at b1 b2
  have b1 : H2.size = s.heap.size + 75 := b1
  refine lv_astore_n (lv' := [(1, .ref s.heap.size), (0, .ref b)]) hx hb dL_law_7 rfl hl (by decide) rfl (fun ls hl => ?_)
  -- new OneSlipModel()
  refine W.newcK hx hb hown (hg _ clL_10) (hg _ insX12) (hg _ iniX12) rfl dL_law_8 (Nat.le_of_ble_eq_true rfl) (Nat.le_of_ble_eq_true rfl) (hKc 12 _ rfl).2.1 b1 fun H3 kM hkM e3 z3 o3 => ?_
  have hP3 : va_P D classes (Lay (s.heap.size + 75) [.inr (12, [.int 0, .int 0, .int 0, .null, .null, .null, .null, .null, .null, .null, .int 0, .int 0, .int 0, .int 0, .int 0, .int 0, .null, .null, .null, .null, .null, .null, .null, .null, .int 0, .int 0, .int 0, .int 0, .int 0, .null, .null, .null, .null, .null, .null, .null, .null, .null, .null, .null, .null, .null, .null, .int 0, .int 0, .int 0, .int 0, .int 0, .null, .int 0, .null, .null, .null, .null, .null, .int 0, .int 0, .int 0, .int 0, .null, .null, .null, .null, .null, .null])]) H3 := lay_push (es := []) (H := H2) b1 (fun k q hk => by cases hk) o3 ⟨_, rfl, (u_born tyX12 hg cin12 (hKc 12 _ rfl) hkM e3 tyX12_ok).to (by decide +kernel)⟩
  have hPx : va_P D classes (Lay s.heap.size (cellsX11 cA s.heap.size)) H3 := b2.kept (fun k q hk => o3 _ (by have := lay_of hk; have l75 : (cellsX11 cA s.heap.size).length = 75 := rfl; omega))
  have hS3 : va_S (fun q => s.heap.size ≤ q) s.heap H3 locs2 := ⟨by omega, fun x y1 y2 => (o3 x (by omega)).trans (hS2.2.1 x y1 y2), hS2.2.2⟩
  refine lv_dup hx hb dL_law_11 rfl ?_
  have key2 := va_runI (R := room_1) (p := p) (l := l) (e := e) (below := below) (meth := meth) (locs := locs2) (cells := 0 + 1 + 74 + 1) (slots := 0 + 16 + 3760 + 65) (H := H3) (g := F0 m (8 + 3 + 1) ls [.ref (s.heap.size + 75), .ref (s.heap.size + 75)]) (As := []) (rest := [.ref (s.heap.size + 75)]) (b := s.heap.size + 75) ⟨hx, hb, hml, hown, hg⟩ (ciX12 cA (s.heap.size + 75) l D) ⟨callB_of 0 hg (gtbl_code mwX12_init.1) rfl rfl rfl (hg _ mwX12_init.2.1) (hg _ miL_12) mwX12_init.2.2.1 ⟨Nat.le_of_ble_eq_true rfl, Nat.le_of_ble_eq_true rfl⟩, rfl, hg _ imX12_init⟩ ⟨pcC_blind, fun U hU hW => ⟨rfl, va_K.moved hW.alike hK, nestw_all hW hN, by rw [hU]; exact z3, by rw [hU]; exact hP3⟩⟩ rfl rfl hl.1 rfl (lv_room (Nat.le_of_ble_eq_true rfl)) dL_law_12 ⟨Nat.le_of_ble_eq_true rfl, Nat.le_of_ble_eq_true rfl⟩
  refine va_callv key2 hS3 (fun q _ h => by show s.heap.size ≤ q; have : s.heap.size + 75 ≤ q := h; omega) (fun q h => by show s.heap.size ≤ q; have : s.heap.size + 75 ≤ q := h; omega) (fun u2 t2 H4 locs4 ht4 hvm4 _ hB4 hz4 hk4 hS4 => ?_)
  obtain ⟨d1, d2⟩ := hB4
  rw [ht4] at d1 d2
  have hPall : va_P D classes (wld cA (adrW s.heap.size aK aV) hI) H4 := by
    rw [← wld_eq, lay_app]
    refine (hPx.kept (fun k q hk => ?_)).app d2
    have := lay_of hk
    have l75 : (cellsX11 cA s.heap.size).length = 75 := rfl
    exact hk4 _ (by omega) (fun z => by have : s.heap.size + 75 ≤ q.1 := z; omega)
  refine lv_astore_n (lv' := [(2, .ref (s.heap.size + 75)), (1, .ref s.heap.size), (0, .ref b)]) hx hb dL_law_15 rfl hl (by decide) rfl (fun ls hl => ?_)
  refine lv_iconst (v := 0) hx hb dL_law_16 (by decide) ?_
  refine lv_istore_n (lv' := [(3, .int 0), (2, .ref (s.heap.size + 75)), (1, .ref s.heap.size), (0, .ref b)]) hx hb dL_law_17 rfl hl (by decide) rfl (fun ls hl => ?_)
  refine va_forget (fun q hq => hS4.2.2 q hq) ?_
  exact law_loop X hL (by decide) (by decide) 520 0 hI rfl (by decide) hI_inv H4 [] ls hPall ⟨hS4.1, fun q y1 y2 => hS4.2.1 q y1 (fun z => by have : s.heap.size ≤ q := z; omega), fun _ h => by cases h⟩ hl
