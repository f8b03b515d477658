/-! ===== what the printed methods use ===== -/
theorem fuel_ex : ∃ n : Nat, 3000000000 < n := ⟨4000000000, by decide⟩
/-- turns enough for every loop; its own number is nobody's business (the kernel would count it down) -/
noncomputable def fuel0 : Nat := Classical.choose fuel_ex
theorem fuel_big : 3000000000 < fuel0 := Classical.choose_spec fuel_ex
def aln (a : Nat) : Nat := match tbl[a]? with
  | some e => e.2.1
  | none => 0
def isA (a : Nat) : Prop := tbl[a]? = some (0, aln a, [])
def pI (h : AH) (v : Int32) : Option Value × AH := (some (.int v), h)
def pJ (h : AH) (v : Int64) : Option Value × AH := (some (.long v), h)
theorem tbl_small : ∀ e ∈ tbl, e.2.1 ≤ 2000 := by decide +kernel
theorem aln_small (a : Nat) : aln a ≤ 2000 := by
  unfold aln
  cases h : tbl[a]? with
  | none => exact Nat.zero_le _
  | some e => exact tbl_small e (List.mem_of_getElem? h)
theorem vp_lit {i : Int32} {n : Nat} (hn : n ≤ 2000) (h1 : ¬ i < 0) (h2 : i < Int32.ofNat n) : vp_in i n := by
  rintro (h | h)
  · exact h1 h
  · have h3 : i.toInt < (Int32.ofNat n).toInt := Int32.lt_iff_toInt_lt.mp h2
    have h4 : (Int32.ofNat n).toInt = (n : Int) := Int32.toInt_ofNat_of_lt (by omega)
    have h5 : i.toNatClampNeg = i.toInt.toNat := rfl
    have h6 : ¬ i.toInt < 0 := fun q => h1 (Int32.lt_iff_toInt_lt.mpr q)
    omega
theorem vp_aln {a : Nat} {i : Int32} (_ : isA a) (h1 : ¬ i < 0) (h2 : i < Int32.ofNat (aln a)) : vp_in i (aln a) := vp_lit (aln_small a) h1 h2
theorem nar_b {v : Int32} (h : v = 0 ∨ v = 1) : narrow .boolean (.int v) = .int v := by rcases h with rfl | rfl <;> rfl
theorem sim_astore {β : Type} {own : String} {cc : ByteArray} {nL : Nat} {ret : Option FieldType} {n : Nat} {out : β → Option (Option Value × AH)} {t : β} {pc : Nat} {L : List (Nat × Value)} {st : List Value} {h : AH} {j : Nat} {x : Nat} {L' : List (Nat × Value)} (hL : lvs L j (.ref x) = L') (hn : j < nL) (hd : decode cc pc = .ok (.astore j, 2)) (k : Sim own cc nL ret n out t (pc + 2) L' st h) : Sim own cc nL ret n out t pc L (.ref x :: st) h := by
  intro p l e s m args below meth c D cA adr X a ha H locs ls hP hS hl
  exact lv_astore X.1.1 X.1.2.1 hd hl hn (lvs_cv adr L j (.ref x)) (fun ls' hl' => k p l e s m args below meth c D cA adr X a ha H locs ls' hP hS (by rw [← hL]; exact hl'))
theorem pos_ne {y : Int32} (h : 0 < y) : ¬ y = 0 := by
  intro e
  subst e
  exact absurd h (by decide)
def jmax (x y : Int32) : Int32 := if x < y then y else x
def jmin (x y : Int32) : Int32 := if y < x then y else x
theorem cmax_eq : cJ9_max_7cf53 = Lib.Math.max.code := by decide +kernel
theorem cmin_eq : cJ9_min_7cf53 = Lib.Math.min.code := by decide +kernel
theorem sim_mmax {β : Type} {own : String} {cc : ByteArray} {nL : Nat} {ret : Option FieldType} {n : Nat} {out : β → Option (Option Value × AH)} {t : β} {pc idx : Nat} {L : List (Nat × Value)} {st : List Value} {h : AH} {x y : Int32} (hl : Cond.methodLink own idx yJ9_max_7cf53 ∈ gtbl) (hn : 1 ≤ n) (hst : (st.map fun v => v.category).sum ≤ 8) (hd : decode cc pc = .ok (.invokestatic idx, 3)) (k : Sim own cc nL ret n out t (pc + 3) L (.int (jmax x y) :: st) h) : Sim own cc nL ret n out t pc L (.int y :: .int x :: st) h := by
  intro p l e s m args below meth c D cA adr X a ha H locs ls hP hS hll
  obtain ⟨⟨hcode, hini, hyd, hmx⟩, hstat⟩ := mtJ9_max_7cf53
  rw [cmax_eq] at hcode
  exact va_mmax X.1.1 X.1.2.1 (X.1.2.2.1.trans hll.1.symm) X.1.2.2.2.1 (X.1.2.2.2.2 _ hl) (X.1.2.2.2.2 _ hstat) (X.1.2.2.2.2 _ hini) (X.1.2.2.2.2 _ hcode) hn (by show ((st.map (cv adr)).map fun v => v.category).sum + 13 ≤ 40 * n; rw [cat_cv]; omega) (Nat.zero_le _) (Nat.zero_le _) hd (k p l e s m args below meth c D cA adr X a ha H locs ls hP hS hll)
theorem sim_mmin {β : Type} {own : String} {cc : ByteArray} {nL : Nat} {ret : Option FieldType} {n : Nat} {out : β → Option (Option Value × AH)} {t : β} {pc idx : Nat} {L : List (Nat × Value)} {st : List Value} {h : AH} {x y : Int32} (hl : Cond.methodLink own idx yJ9_min_7cf53 ∈ gtbl) (hn : 1 ≤ n) (hst : (st.map fun v => v.category).sum ≤ 8) (hd : decode cc pc = .ok (.invokestatic idx, 3)) (k : Sim own cc nL ret n out t (pc + 3) L (.int (jmin x y) :: st) h) : Sim own cc nL ret n out t pc L (.int y :: .int x :: st) h := by
  intro p l e s m args below meth c D cA adr X a ha H locs ls hP hS hll
  obtain ⟨⟨hcode, hini, hyd, hmx⟩, hstat⟩ := mtJ9_min_7cf53
  rw [cmin_eq] at hcode
  exact va_mmin X.1.1 X.1.2.1 (X.1.2.2.1.trans hll.1.symm) X.1.2.2.2.1 (X.1.2.2.2.2 _ hl) (X.1.2.2.2.2 _ hstat) (X.1.2.2.2.2 _ hini) (X.1.2.2.2.2 _ hcode) hn (by show ((st.map (cv adr)).map fun v => v.category).sum + 13 ≤ 40 * n; rw [cat_cv]; omega) (Nat.zero_le _) (Nat.zero_le _) hd (k p l e s m args below meth c D cA adr X a ha H locs ls hP hS hll)
theorem fit_b {v : Int32} (h : v = 0 ∨ v = 1) : fits .boolean (.int v) = true := by rcases h with rfl | rfl <;> rfl
section AuxRows
variable {β : Type} {own : String} {cc : ByteArray} {nL : Nat} {ret : Option FieldType} {n : Nat} {out : β → Option (Option Value × AH)} {pc : Nat} {L : List (Nat × Value)} {st : List Value} {h : AH}
theorem sim_letJ {γ : Type} {f : γ} {F : γ → β} (P : γ → Prop) (hf : P f) (k : ∀ J, P J → Sim own cc nL ret n out (F J) pc L st h) : Sim own cc nL ret n out (letT f F) pc L st h := k f hf
theorem sim_nmP {x : Int32 × AH} {f : Int32 × AH → β} (k : ∀ b : Int32 × AH, Sim own cc nL ret n out (f b) pc L (.int b.1 :: st) b.2) : Sim own cc nL ret n out (letT x f) pc L (.int x.1 :: st) x.2 := k x
theorem sim_nmQ {x : Int64 × AH} {f : Int64 × AH → β} (k : ∀ b : Int64 × AH, Sim own cc nL ret n out (f b) pc L (.long b.1 :: st) b.2) : Sim own cc nL ret n out (letT x f) pc L (.long x.1 :: st) x.2 := k x
end AuxRows
