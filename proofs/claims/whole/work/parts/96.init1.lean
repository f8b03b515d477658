theorem nestw_all {s U : State} (hW : s.WarmedH U.vm) (h : ∀ w ∈ nestw, va_Nw w s) : ∀ w ∈ nestw, va_Nw w U := fun w hw => nestw_warm hW w hw (h w hw)
section CCall
variable {own : String} {cc : ByteArray} {nL n MC MS : Nat} {cA : Nat → ClassId} {h0 : Nat} {post : List va_E} {pc : Nat} {L : List (Nat × Value)} {st : List Value} {es : List va_E} {mc ms : Nat}
theorem pcC_blind {D : va_G} {av : List Value} {pre : List va_E} : FrameBlind (PcC D cA h0 av pre) := fun a U g mk q => ⟨q.1, va_K.moved (u := U) (U := U.calling g mk a) (Vm.Alike.refl U.vm) q.2.1, fun w hw => va_Nw.same (nestw_on w hw) (u := U) (U := U.calling g mk a) rfl (q.2.2.1 w hw), q.2.2.2.1, q.2.2.2.2⟩
theorem c_call {y : MethodName} {bytes : ByteArray} {nL' n' MC' MS' idx k9 : Nat} {As stk : List Value} {pre post' : List va_E} {ob : va_E} (hok : CMet y bytes nL' n' MC' MS' cA (h0 + pre.length) As [ob] post') (hy1 : y.name = "<init>") (hl : ML own idx y) (hm : MW y bytes nL' none k9) (hin : Cond.instanceMethod y ∈ gtbl) (he : es = pre ++ [ob]) (hs : As.reverse ++ .ref (h0 + pre.length) :: st = stk) (hn : n' + 1 ≤ n) (hk : As.length = k9) (hst : (st.map fun v => v.category).sum ≤ 8) (hmc : mc + MC' ≤ MC) (hms : ms + MS' ≤ MS) (hd : decode cc pc = .ok (.invokespecial idx, 3)) (k : CSim own cc nL n MC MS cA h0 post (pc + 3) L st (pre ++ post') (mc + MC') (ms + MS')) : CSim own cc nL n MC MS cA h0 post pc L stk es mc ms := by
  subst he hs
  intro p l e s m args below meth c D X H locs ls hz hP h0s hS hll
  obtain ⟨hcode, hini, hyd, hmx⟩ := hm
  have hz' : H.size = h0 + pre.length + [ob].length := by rw [hz, List.length_append, Nat.add_assoc]
  have hz1 : H.size = h0 + pre.length + 1 := hz'
  rw [lay_app] at hP
  have hPa : va_P D classes (Lay h0 pre) H := fun i q hq => hP i q (by rw [List.getElem?_append_left (List.getElem?_eq_some_iff.mp hq).1]; exact hq)
  have hPb : va_P D classes (Lay (h0 + pre.length) [ob]) H := fun i q hq => hP ((Lay h0 pre).length + i) q (by rw [List.getElem?_append_right (Nat.le_add_right _ _), Nat.add_sub_cancel_left]; exact hq)
  have hPre : PreS s H (PcC D cA (h0 + pre.length) As [ob]) (.ref (h0 + pre.length) :: As) := ⟨pcC_blind, fun U hU hW => ⟨rfl, va_K.moved hW.alike X.2.2.2.2.1, nestw_all hW X.2.2.2.2.2, by rw [hU]; exact hz', by rw [hU]; exact hPb⟩⟩
  have hR : (rmC n' MC' MS').frames + 1 ≤ (rmC n MC MS).frames ∧ 8 + (nL' + 11) + (rmC n' MC' MS').locals ≤ (rmC n MC MS).locals := ⟨hn, by show 8 + (nL' + 11) + 40 * n' ≤ 40 * n; omega⟩
  have key : va_Run p l e (rmC n MC MS) s m args below meth c H locs mc ms MC' MS' (F0 m pc ls (As.reverse ++ .ref (h0 + pre.length) :: st)) st (QcC D (h0 + pre.length) post' (Value.ref (h0 + pre.length) :: As).toArray) (fun q => h0 + pre.length ≤ q) := by
    rcases hl with hl | ⟨host, hl⟩
    · exact va_runI X.1 (hok l D) ⟨callB_of k9 X.1.2.2.2.2 (gtbl_code hcode) rfl rfl rfl (X.1.2.2.2.2 _ hini) (X.1.2.2.2.2 _ hl) hyd hR, hy1, X.1.2.2.2.2 _ hin⟩ hPre rfl hk hll.1 rfl (lv_room hst) hd ⟨hmc, hms⟩
    · exact va_runIN X.1 (hok l D) ⟨va_cnB k9 X.1.2.2.2.2 (gtbl_code hcode) rfl rfl rfl (X.2.2.2.2.2 _ hl) (X.1.2.2.2.2 _ hini) hyd hR, hy1, X.1.2.2.2.2 _ hin⟩ hPre rfl hk hll.1 rfl (lv_room hst) hd ⟨hmc, hms⟩
  refine va_callv key hS (fun q _ h => by show h0 ≤ q; have : h0 + pre.length ≤ q := h; omega) (fun q h => by show h0 ≤ q; have : h0 + pre.length ≤ q := h; omega) (fun u t H1 locs1 ht hvm _ hB hzz hk1 hS1 => ?_)
  obtain ⟨b1, b2⟩ := hB
  rw [ht] at b1 b2
  refine k p l e s m args below meth c D X H1 locs1 ls (by rw [b1, List.length_append, Nat.add_assoc]) ?_ h0s hS1 hll
  rw [lay_app]
  refine (hPa.kept (fun i q hq => ?_)).app b2
  have := lay_of hq
  exact hk1 _ (by omega) (fun z => by have : h0 + pre.length ≤ q.1 := z; omega)
theorem c_call' {y : MethodName} {bytes : ByteArray} {nL' n' MC' MS' idx k9 mc' ms' : Nat} {As stk : List Value} {es' : List va_E} (q : Nat) (pre : List va_E) (ob : va_E) {post' : List va_E} (hok : CMet y bytes nL' n' MC' MS' cA q As [ob] post') (hq : h0 + pre.length = q) (hes : pre ++ post' = es') (hy1 : y.name = "<init>") (hl : ML own idx y) (hm : MW y bytes nL' none k9) (hin : Cond.instanceMethod y ∈ gtbl) (he : es = pre ++ [ob]) (hs : As.reverse ++ .ref q :: st = stk) (hn : n' + 1 ≤ n) (hk : As.length = k9) (hst : (st.map fun v => v.category).sum ≤ 8) (hmc : mc + MC' = mc' ∧ mc' ≤ MC) (hms : ms + MS' = ms' ∧ ms' ≤ MS) (hd : decode cc pc = .ok (.invokespecial idx, 3)) (k : CSim own cc nL n MC MS cA h0 post (pc + 3) L st es' mc' ms') : CSim own cc nL n MC MS cA h0 post pc L stk es mc ms := by
  obtain ⟨rfl, hmc⟩ := hmc
  obtain ⟨rfl, hms⟩ := hms
  subst hq hes
  exact c_call hok hy1 hl hm hin he hs hn hk hst hmc hms hd k
theorem c_new' {ci N idx mc' ms' : Nat} {C : String} {T : u_T} {fs : List Value} {es' : List va_E} (q : Nat) (ty : Nat → FieldType) (hq : h0 + es.length = q) (hes : es ++ [.inr (ci, fs)] = es') (hc : classes[ci]? = some (C, T, N)) (hty : ∀ k, k < N → parseFieldDescriptor (T k).2.2.1 = some (ty k)) (hfs : ∀ j, j < N → defaultValue (ty j) = vp_V fs j) (h1 : Cond.classLink own idx C ∈ gtbl) (h2 : Cond.instantiable C N ∈ gtbl) (h3 : Cond.initialized C ∈ gtbl) (hmc : mc + 1 = mc' ∧ mc' ≤ MC) (hms : ms + N = ms' ∧ ms' ≤ MS) (hd : decode cc pc = .ok (.new idx, 3)) (k : CSim own cc nL n MC MS cA h0 post (pc + 3) L (.ref q :: st) es' mc' ms') : CSim own cc nL n MC MS cA h0 post pc L st es mc ms := by
  obtain ⟨rfl, hmc⟩ := hmc
  obtain ⟨rfl, hms⟩ := hms
  subst hq hes
  exact c_new ty hc hty hfs h1 h2 h3 hmc hms hd k
theorem c_newI {N mc' ms' : Nat} {v : Int32} {es' : List va_E} (q : Nat) (hq : h0 + es.length = q) (hes : es ++ [.inl (cA 0, N, .inl (fun _ => 0))] = es') (h1 : Cond.arrayClass .int ∈ gtbl) (hv : ¬ v < 0 ∧ v.toNatClampNeg = N) (hby : N * componentBytes .int ≤ 536870912) (hmc : mc + 1 = mc' ∧ mc' ≤ MC) (hms : ms + N = ms' ∧ ms' ≤ MS) (hd : decode cc pc = .ok (.newarray .int, 2)) (k : CSim own cc nL n MC MS cA h0 post (pc + 2) L (.ref q :: st) es' mc' ms') : CSim own cc nL n MC MS cA h0 post pc L (.int v :: st) es mc ms := by
  obtain ⟨rfl, hmc⟩ := hmc
  obtain ⟨rfl, hms⟩ := hms
  subst hq hes
  exact c_newa (atype := .int) (ty := .int) (t0 := 0) rfl (fun _ => rfl) (fun _ _ h => h) (fun _ => rfl) h1 hv.1 hv.2 hby hmc hms hd k
theorem c_newJ {N mc' ms' : Nat} {v : Int32} {es' : List va_E} (q : Nat) (hq : h0 + es.length = q) (hes : es ++ [.inl (cA 2, N, .inr (.inl (fun _ => 0)))] = es') (h1 : Cond.arrayClass .long ∈ gtbl) (hv : ¬ v < 0 ∧ v.toNatClampNeg = N) (hby : N * componentBytes .long ≤ 536870912) (hmc : mc + 1 = mc' ∧ mc' ≤ MC) (hms : ms + N = ms' ∧ ms' ≤ MS) (hd : decode cc pc = .ok (.newarray .long, 2)) (k : CSim own cc nL n MC MS cA h0 post (pc + 2) L (.ref q :: st) es' mc' ms') : CSim own cc nL n MC MS cA h0 post pc L (.int v :: st) es mc ms := by
  obtain ⟨rfl, hmc⟩ := hmc
  obtain ⟨rfl, hms⟩ := hms
  subst hq hes
  exact c_newa (atype := .long) (ty := .long) (t0 := 2) rfl (fun _ => rfl) (fun _ _ h => h) (fun _ => rfl) h1 hv.1 hv.2 hby hmc hms hd k
theorem c_newB {N mc' ms' : Nat} {v : Int32} {es' : List va_E} (q : Nat) (hq : h0 + es.length = q) (hes : es ++ [.inl (cA 1, N, .inl (fun _ => 0))] = es') (h1 : Cond.arrayClass .byte ∈ gtbl) (hv : ¬ v < 0 ∧ v.toNatClampNeg = N) (hby : N * componentBytes .byte ≤ 536870912) (hmc : mc + 1 = mc' ∧ mc' ≤ MC) (hms : ms + N = ms' ∧ ms' ≤ MS) (hd : decode cc pc = .ok (.newarray .byte, 2)) (k : CSim own cc nL n MC MS cA h0 post (pc + 2) L (.ref q :: st) es' mc' ms') : CSim own cc nL n MC MS cA h0 post pc L (.int v :: st) es mc ms := by
  obtain ⟨rfl, hmc⟩ := hmc
  obtain ⟨rfl, hms⟩ := hms
  subst hq hes
  exact c_newa (atype := .byte) (ty := .byte) (t0 := 1) rfl (fun _ => rfl) (fun _ _ h => h) (fun _ => rfl) h1 hv.1 hv.2 hby hmc hms hd k
end CCall
