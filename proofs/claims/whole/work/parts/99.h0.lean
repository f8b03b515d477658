/-! ===== the world that the constructors lay is the world of the contracts ===== -/
def adrW (base : Nat) (aK aV : Nat → Nat) : Nat → Nat := fun k => if k < 117 then base + k else if k < 207 then aK (k - 200) else aV (k - 220)
def fl (adr : Nat → Nat) (h : AH) (k : Nat) : Nat → List (Nat × Nat) → List Value
  | _, [] => []
  | j, f :: fs => ftv adr h k j f :: fl adr h k (j + 1) fs
theorem fl_at (adr : Nat → Nat) (h : AH) (k : Nat) : ∀ (fs : List (Nat × Nat)) (j i : Nat), (fl adr h k j fs)[i]? = (fs[i]?).map (ftv adr h k (j + i)) := by
  intro fs
  induction fs with
  | nil => intro j i; rfl
  | cons f fs ih =>
    intro j i
    cases i with
    | zero => rfl
    | succ i =>
      show (fl adr h k (j + 1) fs)[i]? = (fs[i]?).map (ftv adr h k (j + (i + 1)))
      rw [ih, show j + 1 + i = j + (i + 1) by omega]
theorem flds_fl (adr : Nat → Nat) (h : AH) (k : Nat) (fs : List (Nat × Nat)) : flds adr h k fs = fl adr h k 0 fs := by
  apply List.ext_getElem?
  intro i
  rw [fl_at, Nat.zero_add]
  unfold flds
  rw [List.getElem?_mapIdx]
def cellF (cA : Nat → ClassId) (adr : Nat → Nat) (h : AH) (k : Nat) (en : Ent) : va_E := match en.1 with
  | 0 => .inl (cA 0, en.2.1, .inl (h.1 k))
  | 1 => .inl (cA 1, en.2.1, .inl (h.1 k))
  | 2 => .inl (cA 2, en.2.1, .inr (.inl (h.2 k)))
  | _ => .inr (en.2.1, fl adr h k 0 en.2.2)
theorem cellF_eq (cA : Nat → ClassId) (adr : Nat → Nat) (h : AH) (k : Nat) (en : Ent) : cellOf cA adr h k en = cellF cA adr h k en := by
  unfold cellOf cellF
  rw [flds_fl]
  rfl
def wl (cA : Nat → ClassId) (adr : Nat → Nat) (h : AH) : Nat → List Ent → List va_E
  | _, [] => []
  | k, en :: es => cellF cA adr h k en :: wl cA adr h (k + 1) es
theorem wl_at (cA : Nat → ClassId) (adr : Nat → Nat) (h : AH) : ∀ (es : List Ent) (k i : Nat), (wl cA adr h k es)[i]? = (es[i]?).map (cellF cA adr h (k + i)) := by
  intro es
  induction es with
  | nil => intro k i; rfl
  | cons f fs ih =>
    intro k i
    cases i with
    | zero => rfl
    | succ i =>
      show (wl cA adr h (k + 1) fs)[i]? = (fs[i]?).map (cellF cA adr h (k + (i + 1)))
      rw [ih, show k + 1 + i = k + (i + 1) by omega]
set_option maxRecDepth 100000 in
theorem cells_eq (cA : Nat → ClassId) (base : Nat) (aK aV : Nat → Nat) : cellsX11 cA base ++ cellsX12 cA (base + 75) = wl cA (adrW base aK aV) hI 0 tbl := by
  rfl
theorem wld_eq (cA : Nat → ClassId) (base : Nat) (aK aV : Nat → Nat) : Lay base (cellsX11 cA base ++ cellsX12 cA (base + 75)) = wld cA (adrW base aK aV) hI := by
  rw [cells_eq cA base aK aV]
  apply List.ext_getElem?
  intro k
  unfold Lay wld
  rw [List.getElem?_mapIdx, List.getElem?_mapIdx, wl_at, Nat.zero_add]
  cases e : tbl[k]? with
  | none => rfl
  | some en =>
    have h2 : tbl.length = 117 := by decide +kernel
    have hk := (List.getElem?_eq_some_iff.mp e).1
    rw [h2] at hk
    show some (base + k, cellF cA (adrW base aK aV) hI k en) = some (adrW base aK aV k, cellOf cA (adrW base aK aV) hI k en)
    rw [cellF_eq, show adrW base aK aV k = base + k by unfold adrW; rw [if_pos hk]]
