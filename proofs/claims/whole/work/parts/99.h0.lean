/-! ===== the world that the constructors lay is the world of the contracts ===== -/
def adrW (base : Nat) (aK aV : Nat → Nat) : Nat → Nat := fun k => if k < 117 then base + k else if k < 207 then aK (k - 200) else aV (k - 220)
theorem wld_eq (cA : Nat → ClassId) (base : Nat) (aK aV : Nat → Nat) : Lay base (cellsX11 cA base ++ cellsX12 cA (base + 75)) = wld cA (adrW base aK aV) hI := sorry
