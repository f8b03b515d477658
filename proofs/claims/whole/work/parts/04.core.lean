/-! ===== THE ABSTRACT HEAP: the ints and longs of every cell, by the cell's number and the place in it. References never change: they stand in the table. ===== -/
abbrev AH : Type := (Nat → Nat → Int32) × (Nat → Nat → Int64)
def sI (h : AH) (k j : Nat) (v : Int32) : AH := (fun a => if a = k then upd (h.1 k) j v else h.1 a, h.2)
def sJ (h : AH) (k j : Nat) (v : Int64) : AH := (h.1, fun a => if a = k then vp_updL (h.2 k) j v else h.2 a)
def letT {α β : Type} (x : α) (k : α → β) : β := k x
def cv (adr : Nat → Nat) (v : Value) : Value := match v with
  | .ref k => .ref (adr k)
  | v => v
def cvl (adr : Nat → Nat) (q : Nat × Value) : Nat × Value := (q.1, cv adr q.2)
theorem cv_cat (adr : Nat → Nat) (v : Value) : (cv adr v).category = v.category := by cases v <;> rfl
def ftv (adr : Nat → Nat) (h : AH) (k j : Nat) (f : Nat × Nat) : Value := match f.1 with
  | 0 => .int (h.1 k j)
  | 1 => .long (h.2 k j)
  | _ => .ref (adr f.2)
def flds (adr : Nat → Nat) (h : AH) (k : Nat) (fs : List (Nat × Nat)) : List Value := fs.mapIdx (ftv adr h k)
def cellOf (cA : Nat → ClassId) (adr : Nat → Nat) (h : AH) (k : Nat) (en : Ent) : va_E := match en.1 with
  | 0 => .inl (cA 0, en.2.1, .inl (h.1 k))
  | 1 => .inl (cA 1, en.2.1, .inl (h.1 k))
  | 2 => .inl (cA 2, en.2.1, .inr (.inl (h.2 k)))
  | _ => .inr (en.2.1, flds adr h k en.2.2)
def wld (cA : Nat → ClassId) (adr : Nat → Nat) (h : AH) : va_W := tbl.mapIdx (fun k en => (adr k, cellOf cA adr h k en))
theorem wld_at {cA : Nat → ClassId} {adr : Nat → Nat} {h : AH} {k : Nat} {en : Ent} (hk : tbl[k]? = some en) : (wld cA adr h)[k]? = some (adr k, cellOf cA adr h k en) := by
  unfold wld
  rw [List.getElem?_mapIdx, hk]
  rfl
theorem cellOf_other {cA : Nat → ClassId} {adr : Nat → Nat} {h h' : AH} {a : Nat} {en : Ent} (h1 : h'.1 a = h.1 a) (h2 : h'.2 a = h.2 a) : cellOf cA adr h' a en = cellOf cA adr h a en := by
  unfold cellOf
  have hf : flds adr h' a en.2.2 = flds adr h a en.2.2 := by
    unfold flds
    congr 1
    funext j f
    unfold ftv
    rw [h1, h2]
  rw [h1, h2, hf]
theorem wld_set {cA : Nat → ClassId} {adr : Nat → Nat} {h h' : AH} {k : Nat} {en : Ent} (hk : tbl[k]? = some en) (h1 : ∀ a, a ≠ k → h'.1 a = h.1 a) (h2 : ∀ a, a ≠ k → h'.2 a = h.2 a) : (wld cA adr h).set k (adr k, cellOf cA adr h' k en) = wld cA adr h' := by
  apply List.ext_getElem?
  intro i
  have hl : k < (wld cA adr h).length := by
    have := (List.getElem?_eq_some_iff.mp hk).1
    unfold wld
    rw [List.length_mapIdx]
    exact this
  by_cases hi : k = i
  · subst hi
    rw [List.getElem?_set_self hl, wld_at hk]
  · rw [List.getElem?_set_ne hi]
    unfold wld
    rw [List.getElem?_mapIdx, List.getElem?_mapIdx]
    cases tbl[i]? with
    | none => rfl
    | some e =>
      show some (adr i, cellOf cA adr h i e) = some (adr i, cellOf cA adr h' i e)
      rw [cellOf_other (h1 i (fun q => hi q.symm)) (h2 i (fun q => hi q.symm))]
theorem sI_at (h : AH) (k j : Nat) (v : Int32) : (sI h k j v).1 k = upd (h.1 k) j v := by simp [sI]
theorem sI_ne (h : AH) {k a : Nat} (j : Nat) (v : Int32) (ha : a ≠ k) : (sI h k j v).1 a = h.1 a := by simp [sI, ha]
theorem sI_J (h : AH) (k j : Nat) (v : Int32) : (sI h k j v).2 = h.2 := rfl
theorem sJ_at (h : AH) (k j : Nat) (v : Int64) : (sJ h k j v).2 k = vp_updL (h.2 k) j v := by simp [sJ]
theorem sJ_ne (h : AH) {k a : Nat} (j : Nat) (v : Int64) (ha : a ≠ k) : (sJ h k j v).2 a = h.2 a := by simp [sJ, ha]
theorem sJ_I (h : AH) (k j : Nat) (v : Int64) : (sJ h k j v).1 = h.1 := rfl
theorem flds_set {adr : Nat → Nat} {h : AH} {k j : Nat} {fs : List (Nat × Nat)} {q : Nat} {v : Int32} (hj : fs[j]? = some (0, q)) : (flds adr h k fs).set j (.int v) = flds adr (sI h k j v) k fs := by
  apply List.ext_getElem?
  intro i
  have hl : j < (flds adr h k fs).length := by
    have := (List.getElem?_eq_some_iff.mp hj).1
    unfold flds
    rw [List.length_mapIdx]
    exact this
  by_cases hi : j = i
  · subst hi
    rw [List.getElem?_set_self hl]
    unfold flds
    rw [List.getElem?_mapIdx, hj]
    show _ = some (Value.int ((sI h k j v).1 k j))
    rw [sI_at]
    simp [upd]
  · rw [List.getElem?_set_ne hi]
    unfold flds
    rw [List.getElem?_mapIdx, List.getElem?_mapIdx]
    cases fs[i]? with
    | none => rfl
    | some f =>
      show some (ftv adr h k i f) = some (ftv adr (sI h k j v) k i f)
      unfold ftv
      rw [sI_at, sI_J]
      have : upd (h.1 k) j v i = h.1 k i := by simp [upd]; intro q; exact absurd q.symm hi
      rw [this]
theorem flds_setJ {adr : Nat → Nat} {h : AH} {k j : Nat} {fs : List (Nat × Nat)} {q : Nat} {v : Int64} (hj : fs[j]? = some (1, q)) : (flds adr h k fs).set j (.long v) = flds adr (sJ h k j v) k fs := by
  apply List.ext_getElem?
  intro i
  have hl : j < (flds adr h k fs).length := by
    have := (List.getElem?_eq_some_iff.mp hj).1
    unfold flds
    rw [List.length_mapIdx]
    exact this
  by_cases hi : j = i
  · subst hi
    rw [List.getElem?_set_self hl]
    unfold flds
    rw [List.getElem?_mapIdx, hj]
    show _ = some (Value.long ((sJ h k j v).2 k j))
    rw [sJ_at]
    simp [vp_updL]
  · rw [List.getElem?_set_ne hi]
    unfold flds
    rw [List.getElem?_mapIdx, List.getElem?_mapIdx]
    cases fs[i]? with
    | none => rfl
    | some f =>
      show some (ftv adr h k i f) = some (ftv adr (sJ h k j v) k i f)
      unfold ftv
      rw [sJ_at, sJ_I]
      have : vp_updL (h.2 k) j v i = h.2 k i := by simp [vp_updL]; intro q; exact absurd q.symm hi
      rw [this]
def gtbl : List Cond := lw_tbl.filter goodWord
theorem gtbl_of {w : Cond} (i : Nat) (h : lw_tbl[i]? = some w) (hg : goodWord w = true) : w ∈ gtbl := List.mem_filter.mpr ⟨List.mem_of_getElem? h, hg⟩
theorem gtbl_all {ws : List Cond} (ps : List Nat) (hp : ws = ps.filterMap (fun i => lw_tbl[i]?)) (h : ws.all goodWord = true) : ∀ w ∈ ws, w ∈ gtbl := by
  intro w hw
  have h1 := List.all_eq_true.mp h w hw
  rw [hp] at hw
  obtain ⟨i, -, hi⟩ := List.mem_filterMap.mp hw
  exact gtbl_of i hi h1
theorem gtbl_good : GoodIn gtbl gtbl := fun w hw => ⟨hw, good_of_word (List.mem_filter.mp hw).2⟩
theorem gtbl_code {y : MethodName} {cc : ByteArray} {maxL : Nat} {ret : Option FieldType} (h : Cond.code y cc maxL ret ∈ gtbl) : GoodIn gtbl (.code y cc maxL ret :: gtbl) := by
  intro w hw
  rcases List.mem_cons.mp hw with rfl | hw
  · exact gtbl_good _ h
  · exact gtbl_good _ hw
/-- the world's addresses -/
def Aw (adr : Nat → Nat) : Nat → Prop := fun q => ∃ k, k < tbl.length ∧ q = adr k
def Inj (adr : Nat → Nat) : Prop := ∀ i j, i < tbl.length → j < tbl.length → adr i = adr j → i = j
theorem wld_D {cA : Nat → ClassId} {adr : Nat → Nat} {h : AH} (hI : Inj adr) : va_D (Aw adr) (wld cA adr h) := by
  have key : ∀ (k : Nat) (q : Nat × va_E), (wld cA adr h)[k]? = some q → k < tbl.length ∧ q.1 = adr k := by
    intro k q hk
    unfold wld at hk
    rw [List.getElem?_mapIdx] at hk
    cases ht : tbl[k]? with
    | none => rw [ht] at hk; cases hk
    | some e =>
      rw [ht] at hk
      have := Option.some.inj hk
      exact ⟨(List.getElem?_eq_some_iff.mp ht).1, by rw [← this]⟩
  refine ⟨fun i j p q hi hj e => ?_, fun k q hk => ?_⟩
  · obtain ⟨a1, a2⟩ := key i p hi
    obtain ⟨b1, b2⟩ := key j q hj
    exact hI i j a1 b1 (by rw [← a2, ← b2]; exact e)
  · obtain ⟨a1, a2⟩ := key k q hk
    exact ⟨k, a1, a2⟩
/-- what does not change while the program runs -/
def Wd (D : va_G) (cA : Nat → ClassId) (adr : Nat → Nat) (U : State) : Prop :=
  va_K D classes [(cA 0, .int), (cA 1, .byte), (cA 2, .long)] U ∧ (∀ w ∈ nestw, va_Nw w U) ∧ vk_S 7 lenS bytS (fun i => adr (200 + i)) (fun i => adr (220 + i)) (Aw adr) U U.heap ∧ (∀ i, i < 7 → vk_R (strO i).1 (strO i).2.1 (strO i).2.2 (adr (200 + i)) U) ∧ va_Z "java/lang/String" "COMPACT_STRINGS" "Z" (.int 1) (Aw adr) U U.heap
theorem nestw_on : ∀ w ∈ nestw, w.onTables = true := by decide +kernel
theorem Wd.calling {D : va_G} {cA : Nat → ClassId} {adr : Nat → Nat} {U : State} (h : Wd D cA adr U) (g : JFrame) (mk : MethodId) (a : Array Value) : Wd D cA adr (U.calling g mk a) :=
  ⟨va_K.moved (u := U) (U := U.calling g mk a) (Vm.Alike.refl U.vm) h.1, fun w hw => va_Nw.same (nestw_on w hw) (u := U) (U := U.calling g mk a) rfl (h.2.1 w hw), vk_S.moved (u := U) (U := U.calling g mk a) (Vm.Alike.refl U.vm) h.2.2.1, fun i hi => vk_R.same (u := U) (U := U.calling g mk a) rfl (h.2.2.2.1 i hi), va_Z.moved (u := U) (U := U.calling g mk a) (Vm.Alike.refl U.vm) h.2.2.2.2⟩
theorem nestw_warm {s U : State} (hW : s.WarmedH U.vm) : ∀ w ∈ nestw, va_Nw w s → va_Nw w U := by
  intro w hw h
  have : ∃ a i x hh, w = .methodLinkNest a i x hh := by
    revert w
    have h0 : nestw.all (fun w => match w with | .methodLinkNest _ _ _ _ => true | _ => false) = true := by decide +kernel
    intro w hw _
    have h1 := List.all_eq_true.mp h0 w hw
    cases w <;> first | exact ⟨_, _, _, _, rfl⟩ | cases h1
  obtain ⟨a, i, x, hh, rfl⟩ := this
  exact va_Nw.warmM hW h
theorem Wd.later {D : va_G} {cA : Nat → ClassId} {adr : Nat → Nat} {s U : State} {H : Heap} {locs : List Loc} (h : Wd D cA adr s) (hS : va_S (Aw adr) s.heap H locs) (hU : U.heap = H) (hW : s.WarmedH U.vm) : Wd D cA adr U :=
  ⟨va_K.moved hW.alike h.1, fun w hw => nestw_warm hW w hw (h.2.1 w hw), by rw [hU]; exact vk_S.moved hW.alike (vk_S.kept h.2.2.1 hS.2.1), fun i hi => vk_R.warm hW (h.2.2.2.1 i hi), by rw [hU]; exact va_Z.moved hW.alike (va_Z.kept h.2.2.2.2 hS.2.1)⟩
abbrev rmH (n : Nat) : Room := { frames := n, cells := 0, slots := 0, locals := 40 * n }
def PcA (D : va_G) (cA : Nat → ClassId) (adr : Nat → Nat) (av : List Value) (h : AH) : Array Value → State → Prop := fun a U => a = (av.map (cv adr)).toArray ∧ Wd D cA adr U ∧ va_P D classes (wld cA adr h) U.heap
def QcA (D : va_G) (cA : Nat → ClassId) (adr : Nat → Nat) (o : Option Value × AH) : Array Value → State → Outcome → State → Prop := fun _ st oc t => oc = .returned o.1 ∧ va_P D classes (wld cA adr o.2) t.heap ∧ va_F (Aw adr) st t
/-- A METHOD'S CONTRACT: with these values and this heap it returns o.1 and leaves the heap o.2 -/
def Ok (y : MethodName) (cc : ByteArray) (nL : Nat) (ret : Option FieldType) (n : Nat) (av : List Value) (h : AH) (o : Option Value × AH) : Prop :=
  ∀ (l : Launch) (D : va_G) (cA : Nat → ClassId) (adr : Nat → Nat), Inj adr → Met l y (.code y cc nL ret :: gtbl) (rmH n) (PcA D cA adr av h) (QcA D cA adr o) 0 0 (Aw adr)
/-- what a frame of a method has -/
def Cx (p : Program) (s : State) (m : MethodId) (args : Array Value) (meth : Method) (c : Code) (D : va_G) (cA : Nat → ClassId) (adr : Nat → Nat) (own : String) (cc : ByteArray) (nL : Nat) (ret : Option FieldType) : Prop :=
  CallFix p m c cc nL s args gtbl own ∧ meth.sig.returnType = ret ∧ meth.locks = false ∧ Wd D cA adr s ∧ Inj adr
/-- A FRAME that is at pc, with these locals and stack and heap, comes to the end that t says -/
def Sim {β : Type} (own : String) (cc : ByteArray) (nL : Nat) (ret : Option FieldType) (n : Nat) (out : β → Option (Option Value × AH)) (t : β) (pc : Nat) (L : List (Nat × Value)) (st : List Value) (h : AH) : Prop :=
  ∀ (p : Program) (l : Launch) (e : Env) (s : State) (m : MethodId) (args : Array Value) (below : List Frame) (meth : Method) (c : Code) (D : va_G) (cA : Nat → ClassId) (adr : Nat → Nat), Cx p s m args meth c D cA adr own cc nL ret →
  ∀ (a : Option Value × AH), out t = some a → ∀ (H : Heap) (locs : List Loc) (ls : Array Slot), va_P D classes (wld cA adr h) H → va_S (Aw adr) s.heap H locs → lv_has ls nL (L.map (cvl adr)) →
  W p l e (rmH n) s m args below meth c H locs 0 0 (MQ below (QcA D cA adr a) args s 0 0 (Aw adr)) (F0 m pc ls (st.map (cv adr)))
theorem cvl_at {adr : Nat → Nat} {L : List (Nat × Value)} {k i : Nat} {v : Value} (h : L[k]? = some (i, v)) : (L.map (cvl adr))[k]? = some (i, cv adr v) := by
  rw [List.getElem?_map, h]
  rfl
def lvs (L : List (Nat × Value)) (i : Nat) (v : Value) : List (Nat × Value) := (i, v) :: L.filter (fun q => !(q.1 == i) && !(q.1 + 1 == i && q.2.category == 2))
def lvs2 (L : List (Nat × Value)) (i : Nat) (v : Value) : List (Nat × Value) := (i, v) :: L.filter (fun q => !(q.1 == i) && (!(q.1 == i + 1) && !(q.1 + 1 == i && q.2.category == 2)))
theorem lvs_cv (adr : Nat → Nat) (L : List (Nat × Value)) (i : Nat) (v : Value) : (i, cv adr v) :: (L.map (cvl adr)).filter (fun q => !(q.1 == i) && !(q.1 + 1 == i && q.2.category == 2)) = (lvs L i v).map (cvl adr) := by
  unfold lvs
  rw [List.map_cons, List.filter_map]
  congr 3
  funext q
  show (!(q.1 == i) && !(q.1 + 1 == i && (cv adr q.2).category == 2)) = _
  rw [cv_cat]
theorem lvs2_cv (adr : Nat → Nat) (L : List (Nat × Value)) (i : Nat) (v : Value) : (i, cv adr v) :: (L.map (cvl adr)).filter (fun q => !(q.1 == i) && (!(q.1 == i + 1) && !(q.1 + 1 == i && q.2.category == 2))) = (lvs2 L i v).map (cvl adr) := by
  unfold lvs2
  rw [List.map_cons, List.filter_map]
  congr 3
  funext q
  show (!(q.1 == i) && (!(q.1 == i + 1) && !(q.1 + 1 == i && (cv adr q.2).category == 2))) = _
  rw [cv_cat]
