/-! ===== the start: what the constructors lay ===== -/
def hI : AH := (fun a j => if a = 1 then (if j = 3 then -1 else 0) else if a = 3 ∨ a = 14 ∨ a = 75 then (if j = 0 then 97 else if j = 1 then 1 else 0) else if a = 71 then (if j = 5 then 1 else 0) else 0, fun a j => if a = 67 then (if j = 4 then 1 else 0) else 0)
theorem hI_0 {a : Nat} (h : a ≠ 1 ∧ a ≠ 3 ∧ a ≠ 14 ∧ a ≠ 75 ∧ a ≠ 71) : hI.1 a = fun _ => 0 := by
  obtain ⟨h1, h2, h3, h4, h5⟩ := h
  funext j
  show (if a = 1 then (if j = 3 then (-1 : Int32) else 0) else if a = 3 ∨ a = 14 ∨ a = 75 then (if j = 0 then 97 else if j = 1 then 1 else 0) else if a = 71 then (if j = 5 then 1 else 0) else 0) = 0
  rw [if_neg h1, if_neg (by omega), if_neg h5]
theorem hI_inv : Inv hI := by
  refine ⟨⟨0, 97, 1, ?_⟩, Or.inl ⟨?_, rfl⟩, ⟨0, by omega, rfl, rfl, fun i hi => ?_⟩, 0, by omega, ?_, rfl, Or.inl ?_, fun q hq => absurd hq (Nat.not_lt_zero q), ?_⟩
  · unfold ScN
    rw [hI_0 (a := 6) (by decide), hI_0 (a := 4) (by decide), hI_0 (a := 8) (by decide), hI_0 (a := 9) (by decide), hI_0 (a := 10) (by decide), hI_0 (a := 7) (by decide), hI_0 (a := 11) (by decide), hI_0 (a := 12) (by decide), hI_0 (a := 13) (by decide), hI_0 (a := 5) (by decide), hI_0 (a := 76) (by decide), hI_0 (a := 78) (by decide), hI_0 (a := 79) (by decide), hI_0 (a := 80) (by decide), hI_0 (a := 77) (by decide), hI_0 (a := 81) (by decide)]
    refine ⟨rfl, rfl, rfl, rfl, rfl, by decide, ⟨by decide, rfl, by decide, by decide, fun a _ => ⟨0, by decide, rfl⟩, fun i hi => absurd hi (Nat.not_lt_zero i)⟩, eqOn.rf, eqOn.rf, eqOn.rf, eqOn.rf, eqOn.rf, fun i hi => absurd hi (Nat.not_lt_zero i), fun i hi => absurd hi (Nat.not_lt_zero i), fun p hp => ⟨rfl, show (-99 : Int32) ≤ 0 by decide, show (0 : Int32) ≤ 99 by decide⟩⟩
  · rw [hI_0 (by decide)]
  · rw [hI_0 (a := 2) (by decide), hI_0 (a := 82) (by decide)]
    exact ⟨0, by decide, rfl, show (0 : Int32) &&& 255 = nI 0 by decide⟩
  · rw [hI_0 (by decide)]; rfl
  · rw [hI_0 (by decide)]
  · rw [hI_0 (by decide)]
