/-! ===== constructors: a world that is being made; its cells lie one behind another ===== -/
def Lay (h0 : Nat) (es : List va_E) : va_W := es.mapIdx (fun i e => (h0 + i, e))
theorem lay_at {h0 i : Nat} {es : List va_E} {e : va_E} (h : es[i]? = some e) : (Lay h0 es)[i]? = some (h0 + i, e) := by
  unfold Lay
  rw [List.getElem?_mapIdx, h]
  rfl
theorem lay_of {h0 i : Nat} {es : List va_E} {q : Nat × va_E} (h : (Lay h0 es)[i]? = some q) : i < es.length ∧ q.1 = h0 + i ∧ es[i]? = some q.2 := by
  unfold Lay at h
  rw [List.getElem?_mapIdx] at h
  cases e : es[i]? with
  | none => rw [e] at h; cases h
  | some x =>
    rw [e] at h
    have := Option.some.inj h
    exact ⟨(List.getElem?_eq_some_iff.mp e).1, by rw [← this], by rw [← this]⟩
theorem lay_D {h0 : Nat} {es : List va_E} : va_D (fun q => h0 ≤ q) (Lay h0 es) := by
  refine ⟨fun i j p q hi hj e => ?_, fun k q hk => ?_⟩
  · have a := (lay_of hi).2.1
    have b := (lay_of hj).2.1
    omega
  · show h0 ≤ q.1
    have := (lay_of hk).2.1
    omega
theorem lay_app (h0 : Nat) (xs ys : List va_E) : Lay h0 (xs ++ ys) = Lay h0 xs ++ Lay (h0 + xs.length) ys := by
  unfold Lay
  rw [List.mapIdx_append]
  congr 2
  funext i e
  rw [Nat.add_assoc, Nat.add_comm i]
theorem lay_one (h0 : Nat) (e : va_E) : Lay h0 [e] = [(h0, e)] := rfl
theorem lay_set0 (h0 : Nat) (x y : va_E) (es : List va_E) : (Lay h0 (x :: es)).set 0 (h0, y) = Lay h0 (y :: es) := by
  unfold Lay
  rw [List.mapIdx_cons, List.mapIdx_cons]
  rfl
abbrev rmC (n mc ms : Nat) : Room := { frames := n, cells := mc, slots := ms, locals := 40 * n }
abbrev tysC (cA : Nat → ClassId) : List (ClassId × FieldType) := [(cA 0, .int), (cA 1, .byte), (cA 2, .long)]
def PcC (D : va_G) (cA : Nat → ClassId) (h0 : Nat) (av : List Value) (pre : List va_E) : Array Value → State → Prop := fun a U => a = (Value.ref h0 :: av).toArray ∧ va_K D classes (tysC cA) U ∧ (∀ w ∈ nestw, va_Nw w U) ∧ U.heap.size = h0 + pre.length ∧ va_P D classes (Lay h0 pre) U.heap
def QcC (D : va_G) (h0 : Nat) (post : List va_E) : Array Value → State → Outcome → State → Prop := va_Qv (fun _ : Unit => True) (fun _ t => t.heap.size = h0 + post.length ∧ va_P D classes (Lay h0 post) t.heap) (fun q => h0 ≤ q)
def Cc (p : Program) (s : State) (m : MethodId) (args : Array Value) (meth : Method) (c : Code) (D : va_G) (cA : Nat → ClassId) (own : String) (cc : ByteArray) (nL : Nat) : Prop :=
  CallFix p m c cc nL s args gtbl own ∧ meth.sig.returnType = none ∧ meth.locks = false ∧ meth.name = "<init>" ∧ va_K D classes (tysC cA) s ∧ (∀ w ∈ nestw, va_Nw w s)
/-- a constructor: out of the cells pre (from h0 on, the last of the heap) it makes post -/
def CMet (y : MethodName) (cc : ByteArray) (nL n MC MS : Nat) (cA : Nat → ClassId) (h0 : Nat) (av : List Value) (pre post : List va_E) : Prop :=
  ∀ (l : Launch) (D : va_G), Met l y (.code y cc nL none :: gtbl) (rmC n MC MS) (PcC D cA h0 av pre) (QcC D h0 post) MC MS (fun q => h0 ≤ q)
def CSim (own : String) (cc : ByteArray) (nL n MC MS : Nat) (cA : Nat → ClassId) (h0 : Nat) (post : List va_E) (pc : Nat) (L : List (Nat × Value)) (st : List Value) (es : List va_E) (mc ms : Nat) : Prop :=
  ∀ (p : Program) (l : Launch) (e : Env) (s : State) (m : MethodId) (args : Array Value) (below : List Frame) (meth : Method) (c : Code) (D : va_G), Cc p s m args meth c D cA own cc nL →
  ∀ (H : Heap) (locs : List Loc) (ls : Array Slot), H.size = h0 + es.length → va_P D classes (Lay h0 es) H → h0 ≤ s.heap.size → va_S (fun q => h0 ≤ q) s.heap H locs → lv_has ls nL L →
  W p l e (rmC n MC MS) s m args below meth c H locs mc ms (MQ below (QcC D h0 post) args s MC MS (fun q => h0 ≤ q)) (F0 m pc ls st)
section CRows
variable {own : String} {cc : ByteArray} {nL n MC MS : Nat} {cA : Nat → ClassId} {h0 : Nat} {post : List va_E} {pc : Nat} {L : List (Nat × Value)} {st : List Value} {es : List va_E} {mc ms : Nat}
theorem c_of {y : MethodName} {av : List Value} {pre : List va_E} (hs : CSim y.cls cc nL n MC MS cA h0 post 0 (lv_args 0 (.ref h0 :: av)) [] pre 0 0) (hy : plainName y.cls = true) (hn : y.name = "<init>") (hsz : (lg_sl (Value.ref h0 :: av)).length ≤ nL) : CMet y cc nL n MC MS cA h0 av pre post := by
  intro l D
  refine Met.ofW (cc := cc) (maxL := nL) (ret := none) hy rfl ?_
  intro p e s m args below meth c s₁ B hml hv
  obtain ⟨rfl, hK, hN, hsize, hP⟩ := hv
  have hts := atoms_spec (ws := .code y cc nL none :: gtbl) B.pre
  have hown : s.vm.findClass y.cls = some m.cls := findClass_of_methodNamed B.named
  have hl := lv_entry (Value.ref h0 :: av) (n := nL) hsz
  rw [lg_entry_eq]
  exact hs p l e s m _ below meth c D ⟨⟨B.exec, B.bytes, hml, hown, fun w hw => hts w (List.mem_cons_of_mem _ hw)⟩, B.returns, B.notSynchronized, (name_of_methodNamed B.named B.method).1.trans hn, hK, hN⟩ s.heap [] _ hsize hP (by omega) va_S.rf hl
theorem c_ret (he : es = post) (h1 : mc = MC) (h2 : ms = MS) (hd : decode cc pc = .ok (.return_, 1)) : CSim own cc nL n MC MS cA h0 post pc L [] es mc ms := by
  subst he h1 h2
  intro p l e s m args below meth c D X H locs ls hz hP h0s hS hl
  have hlocks := X.2.2.1
  exact W.vret X.1.1 X.1.2.1 X.2.1 (fun t ht hW => ⟨⟨(), rfl, trivial, by rw [ht]; exact hz, by rw [ht]; exact hP⟩, hS.F ht⟩) hS.2.2 hd hlocks
theorem c_aload_n {j : Fin 4} {x : Nat} (k0 : Nat) (hL : L[k0]? = some ((j : Nat), .ref x)) (hd : decode cc pc = .ok (.aload_n j, 1)) (k : CSim own cc nL n MC MS cA h0 post (pc + 1) L (.ref x :: st) es mc ms) : CSim own cc nL n MC MS cA h0 post pc L st es mc ms := by
  intro p l e s m args below meth c D X H locs ls hz hP h0s hS hl
  exact lv_aload_n X.1.1 X.1.2.1 hd rfl (lv_at hl k0 hL) (k p l e s m args below meth c D X H locs ls hz hP h0s hS hl)
theorem c_dup {v : Value} (hd : decode cc pc = .ok (.dup, 1)) (hv : v.category = 1) (k : CSim own cc nL n MC MS cA h0 post (pc + 1) L (v :: v :: st) es mc ms) : CSim own cc nL n MC MS cA h0 post pc L (v :: st) es mc ms := by
  intro p l e s m args below meth c D X H locs ls hz hP h0s hS hl
  exact lv_dup X.1.1 X.1.2.1 hd hv (k p l e s m args below meth c D X H locs ls hz hP h0s hS hl)
theorem c_iconst {z : Int} {v : Int32} (hv : Int32.ofInt z = v) (hd : decode cc pc = .ok (.iconst z, 1)) (k : CSim own cc nL n MC MS cA h0 post (pc + 1) L (.int v :: st) es mc ms) : CSim own cc nL n MC MS cA h0 post pc L st es mc ms := by
  intro p l e s m args below meth c D X H locs ls hz hP h0s hS hl
  exact lv_iconst X.1.1 X.1.2.1 hd hv (k p l e s m args below meth c D X H locs ls hz hP h0s hS hl)
theorem c_bipush {z : Int} {v : Int32} (hv : (Int8.ofInt z).toInt32 = v) (hd : decode cc pc = .ok (.bipush z, 2)) (k : CSim own cc nL n MC MS cA h0 post (pc + 2) L (.int v :: st) es mc ms) : CSim own cc nL n MC MS cA h0 post pc L st es mc ms := by
  intro p l e s m args below meth c D X H locs ls hz hP h0s hS hl
  exact lv_bipush X.1.1 X.1.2.1 hd hv (k p l e s m args below meth c D X H locs ls hz hP h0s hS hl)
theorem c_sipush {z : Int} {v : Int32} (hv : (Int16.ofInt z).toInt32 = v) (hd : decode cc pc = .ok (.sipush z, 3)) (k : CSim own cc nL n MC MS cA h0 post (pc + 3) L (.int v :: st) es mc ms) : CSim own cc nL n MC MS cA h0 post pc L st es mc ms := by
  intro p l e s m args below meth c D X H locs ls hz hP h0s hS hl
  exact lv_sipush X.1.1 X.1.2.1 hd hv (k p l e s m args below meth c D X H locs ls hz hP h0s hS hl)
theorem c_lconst {z : Fin 2} {v : Int64} (hv : Int64.ofNat (z : Nat) = v) (hd : decode cc pc = .ok (.lconst z, 1)) (k : CSim own cc nL n MC MS cA h0 post (pc + 1) L (.long v :: st) es mc ms) : CSim own cc nL n MC MS cA h0 post pc L st es mc ms := by
  intro p l e s m args below meth c D X H locs ls hz hP h0s hS hl
  exact lv_lconst X.1.1 X.1.2.1 hd hv (k p l e s m args below meth c D X H locs ls hz hP h0s hS hl)
theorem c_obj {idx x : Nat} (hl1 : Cond.methodLink own idx Lib.objectInit ∈ gtbl) (hl2 : Cond.instanceMethod Lib.objectInit ∈ gtbl) (hl3 : Cond.code Lib.objectInit ⟨#[0xb1]⟩ 1 none ∈ gtbl) (hn : 1 ≤ n) (hst : (st.map fun v => v.category).sum ≤ 8) (hd : decode cc pc = .ok (.invokespecial idx, 3)) (k : CSim own cc nL n MC MS cA h0 post (pc + 3) L st es mc ms) : CSim own cc nL n MC MS cA h0 post pc L (.ref x :: st) es mc ms := by
  intro p l e s m args below meth c D X H locs ls hz hP h0s hS hl
  refine W.objInit X.1.1 X.1.2.1 X.1.2.2.2.1 (X.1.2.2.2.2 _ hl1) (X.1.2.2.2.2 _ hl2) (X.1.2.2.2.2 _ hl3) rfl (by rw [X.1.2.2.1]; exact hl.1) rfl hd hn (by show 2 * 0 + (st.map fun v => v.category).sum + 12 ≤ 40 * n; omega) ?_
  exact k p l e s m args below meth c D X H locs ls hz hP h0s hS hl
theorem c_get {ci j idx : Nat} {fs : List Value} {rest : List va_E} {v : Value} (he : es = .inr (ci, fs) :: rest) (hf : FL own idx ci j) (hj : fs[j]? = some v) (hd : decode cc pc = .ok (.getfield idx, 3)) (k : CSim own cc nL n MC MS cA h0 post (pc + 3) L (v :: st) es mc ms) : CSim own cc nL n MC MS cA h0 post pc L (.ref h0 :: st) es mc ms := by
  subst he
  intro p l e s m args below meth c D X H locs ls hz hP h0s hS hl
  obtain ⟨C, T, N, hc, hjN, hlk⟩ := hf
  exact va_get (D := D) (cl := classes) (C := C) (T := T) (N := N) (v := v) X.1.1 X.1.2.1 X.1.2.2.2.2 (cls_in hc) X.1.2.2.2.1 X.2.2.2.2.1 hP 0 (lay_at (h0 := h0) rfl) hc j hjN (X.1.2.2.2.2 _ hlk) (fun _ q => q) hj hd (k p l e s m args below meth c D X H locs ls hz hP h0s hS hl)
def FPc (own : String) (idx ci j : Nat) (ty : FieldType) : Prop := ∃ (C : String) (T : u_T) (N : Nat), classes[ci]? = some (C, T, N) ∧ j < N ∧ Cond.fieldLink own idx (T j).1 (T j).2.1 (T j).2.2.1 ∈ gtbl ∧ (T j).1 = own ∧ parseFieldDescriptor (T j).2.2.1 = some ty
theorem c_put {ci j idx : Nat} {fs fs' : List Value} {rest : List va_E} {ty : FieldType} {v : Value} (he : es = .inr (ci, fs) :: rest) (hf : FPc own idx ci j ty) (hn : narrow ty v = v) (hft : fits ty v = true) (hj : j < fs.length) (hfs : fs.set j v = fs') (hd : decode cc pc = .ok (.putfield idx, 3)) (k : CSim own cc nL n MC MS cA h0 post (pc + 3) L st (.inr (ci, fs') :: rest) mc ms) : CSim own cc nL n MC MS cA h0 post pc L (v :: .ref h0 :: st) es mc ms := by
  subst he hfs
  intro p l e s m args below meth c D X H locs ls hz hP h0s hS hl
  obtain ⟨C, T, N, hc, hjN, hlk, hdecl, hty⟩ := hf
  have fin : ∀ (H1 : Heap) (locs1 : List Loc), H1.size = H.size → va_P D classes ((Lay h0 (.inr (ci, fs) :: rest)).set 0 (h0, .inr (ci, fs.set j v))) H1 → va_S (fun q => h0 ≤ q) s.heap H1 locs1 → W p l e (rmC n MC MS) s m args below meth c H1 locs1 mc ms (MQ below (QcC D h0 post) args s MC MS (fun q => h0 ≤ q)) (F0 m (pc + 3) ls st) := fun H1 locs1 hz1 hP1 hS1 => by
    rw [lay_set0] at hP1
    exact k p l e s m args below meth c D X H1 locs1 ls (by rw [hz1]; exact hz) hP1 h0s hS1 hl
  have hts := X.1.2.2.2.2
  have hin := cls_in hc
  have hap := va_apart (own := own) hts hin (cls_ty hc).choose (cls_ty hc).choose_spec (cls_nm hc) X.2.2.2.2.1 hc
  have he : (Lay h0 (.inr (ci, fs) :: rest))[0]? = some (h0, .inr (ci, fs)) := lay_at (h0 := h0) rfl
  obtain ⟨r, h1, cell, q1, q2, q3, q4⟩ := hP 0 _ he
  have hr : r = (C, T, N) := Option.some.inj (h1.symm.trans hc)
  subst hr
  obtain ⟨hSl, hfc, kC, hkC, hkind⟩ := X.2.2.2.2.1.1 ci _ hc
  obtain ⟨cf, kf, fi, f, hi, hsl⟩ := hSl j hjN
  have hst := (u_facts hfc hkC (u_lays hts hin hjN) hi).1
  have hlay := hts _ (hin _ (u_in_lay hjN))
  unfold u_lay at hlay
  by_cases hfin : (T j).2.2.2 = true
  · rw [if_pos hfin] at hlay
    have hcf : m.cls = cf := by
      obtain ⟨_, _, c', _, _, _, -, -, hf', -, -, -, hown2, -⟩ := Cond.laysFinal_spec hlay
      have e1 : c' = cf := by have := hi.symm.trans hf'; simp at this; exact this.1.symm
      rw [hdecl] at hown2
      rw [← e1]; exact Option.some.inj (X.1.2.2.2.1.symm.trans hown2)
    have h6 := u_fits hfc hkC hkind (Or.inr hlay) hi hty hn hft
    refine W.putFinK X.1.1 X.1.2.1 X.1.2.2.2.1 (hts _ hlk) hi hst hcf X.2.2.2.1 (by rw [q2]; exact h6) q1 q3 (by rw [hsl]; exact k2_hasslot (q4 j hjN)) rfl rfl hd fun H' e1 e2 e3 => ?_
    rw [hsl] at e1 ⊢
    exact fin H' _ e2 (hP.set lay_D he ⟨_, hc, t_OB.to (V := updV (vp_V fs) j v) ⟨_, e1, q2, q3, t_set q4 hap hjN v⟩ (fun i _ => vp_updV_set hj v i)⟩ e3) (hS.put e2 e3 (lay_D.2 0 _ he))
  · rw [if_neg hfin] at hlay
    have h6 := u_store hfc hkC hkind hlay hi hty hn hft
    refine W.putK X.1.1 X.1.2.1 (f := f) ⟨X.1.2.2.2.1, hts _ hlk, ⟨_, _, _, hi⟩, hst⟩ (by rw [q2]; exact h6) q1 q3 (by rw [hsl]; exact k2_hasslot (q4 j hjN)) rfl rfl hd fun H' e1 e2 e3 => ?_
    rw [hsl] at e1 ⊢
    exact fin H' _ e2 (hP.set lay_D he ⟨_, hc, t_OB.to (V := updV (vp_V fs) j v) ⟨_, e1, q2, q3, t_set q4 hap hjN v⟩ (fun i _ => vp_updV_set hj v i)⟩ e3) (hS.put e2 e3 (lay_D.2 0 _ he))
/-- a cell more -/
theorem lay_push {D : va_G} {H H1 : Heap} {e : va_E} (hz : H.size = h0 + es.length) (hP : va_P D classes (Lay h0 es) H) (o1 : ∀ q, q < h0 + es.length → H1[q]? = H[q]?) (ha : va_at D classes (h0 + es.length, e) H1) : va_P D classes (Lay h0 (es ++ [e])) H1 := by
  rw [lay_app]
  refine (hP.kept (fun k q hk => ?_)).app (fun k q hk => ?_)
  · have := lay_of hk
    exact o1 _ (by omega)
  · obtain ⟨a1, a2, a3⟩ := lay_of hk
    have : k = 0 := by simpa using a1
    subst this
    have e1 := Option.some.inj a3
    have : q = (h0 + es.length, e) := Prod.ext a2 e1.symm
    rw [this]
    exact ha
theorem c_new {ci N idx : Nat} {C : String} {T : u_T} {fs : List Value} (ty : Nat → FieldType) (hc : classes[ci]? = some (C, T, N)) (hty : ∀ k, k < N → parseFieldDescriptor (T k).2.2.1 = some (ty k)) (hfs : ∀ j, j < N → defaultValue (ty j) = vp_V fs j) (h1 : Cond.classLink own idx C ∈ gtbl) (h2 : Cond.instantiable C N ∈ gtbl) (h3 : Cond.initialized C ∈ gtbl) (hmc : mc + 1 ≤ MC) (hms : ms + N ≤ MS) (hd : decode cc pc = .ok (.new idx, 3)) (k : CSim own cc nL n MC MS cA h0 post (pc + 3) L (.ref (h0 + es.length) :: st) (es ++ [.inr (ci, fs)]) (mc + 1) (ms + N)) : CSim own cc nL n MC MS cA h0 post pc L st es mc ms := by
  intro p l e s m args below meth c D X H locs ls hz hP h0s hS hl
  have hts := X.1.2.2.2.2
  have hKn := X.2.2.2.2.1.1 ci _ hc
  refine W.newcK X.1.1 X.1.2.1 X.1.2.2.2.1 (hts _ h1) (hts _ h2) (hts _ h3) rfl hd hmc hms hKn.2.1 hz fun H1 kC hkC e1 z1 o1 => ?_
  refine k p l e s m args below meth c D X H1 locs ls (by rw [z1, List.length_append]; rfl) (lay_push hz hP o1 ⟨_, hc, (u_born ty hts (cls_in hc) hKn hkC e1 hty).to hfs⟩) h0s ⟨by have := hS.1; omega, fun x y1 y2 => (o1 x (by have := hS.1; omega)).trans (hS.2.1 x y1 y2), hS.2.2⟩ hl
theorem c_newa {N t0 : Nat} {atype : ArrayType} {ty : FieldType} {v : Int32} {a0 : vp_A} (hty : newarray.typeOf atype = ty) (ht : ∀ cA : Nat → ClassId, (tysC cA)[t0]? = some (cA t0, ty)) (hra : ∀ (U : State) (c : ClassId), va_RA U c ty → U.vm.findClass ("[" ++ ty.toString) = some c) (ha : ∀ c : ClassId, vp_cell c a0 = arrV c N (fun _ => defaultValue ty)) (h1 : Cond.arrayClass ty ∈ gtbl) (hn : ¬ v < 0) (hN : v.toNatClampNeg = N) (hby : N * componentBytes ty ≤ 536870912) (hmc : mc + 1 ≤ MC) (hms : ms + N ≤ MS) (hd : decode cc pc = .ok (.newarray atype, 2)) (k : CSim own cc nL n MC MS cA h0 post (pc + 2) L (.ref (h0 + es.length) :: st) (es ++ [.inl (cA t0, a0)]) (mc + 1) (ms + N)) : CSim own cc nL n MC MS cA h0 post pc L (.int v :: st) es mc ms := by
  subst hty
  intro p l e s m args below meth c D X H locs ls hz hP h0s hS hl
  refine va_newaK X.1.1 X.1.2.1 (X.1.2.2.2.2 _ h1) rfl hd rfl hn hN hby hmc hms hz fun H1 c1 e1 z1 o1 hAr hNm => ?_
  have hc1 : c1 = cA t0 := Option.some.inj (hNm.symm.trans (hra s _ (X.2.2.2.2.1.2 t0 _ (ht cA)).2))
  subst hc1
  refine k p l e s m args below meth c D X H1 locs ls (by rw [z1, List.length_append]; rfl) (lay_push hz hP o1 ?_) h0s ⟨by have := hS.1; omega, fun x y1 y2 => (o1 x (by have := hS.1; omega)).trans (hS.2.1 x y1 y2), hS.2.2⟩ hl
  show H1[h0 + es.length]? = some (vp_cell _ _)
  rw [ha]
  exact e1
end CRows
