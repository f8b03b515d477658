/-- where a sign stands among those of a String constant; -1: not there -/
def fX10_among (i : Nat) (h : AH) : Int32 := if h.1 1 3 < 0 then -1 else (match (bytS.getD i []).findIdx? (fun b => b == ji2c (h.1 1 3)) with | some k => Int32.ofNat k | none => -1)
theorem okX10_among (i : Nat) (hi : i < 7) (h : AH) : Ok yX10_among cX10_among 2 (some .int) 12 [.ref 1, .ref (200 + i)] h (some (.int (fX10_among i h)), h) := sorry
