/-! ===== the law's own body ===== -/
theorem and31 (x : Int32) : ∃ b, b < 32 ∧ x &&& 31 = nI b := by
  obtain ⟨n, -, rfl⟩ := of32 x
  exact ⟨n % 2 ^ 5, Nat.mod_lt _ (by decide), fa_mask n 5⟩
def Lc (p : Program) (s : State) (m : MethodId) (meth : Method) (c : Code) (b L : Nat) (xs : Nat → Int32) (D : va_G) (cA : Nat → ClassId) (adr : Nat → Nat) : Prop :=
  CallFix p m c code 4 s #[Value.ref b] gtbl R_law ∧ meth.sig.returnType = ret ∧ meth.locks = false ∧ Wd D cA adr s ∧ Inj adr ∧ va_X b L xs s s.heap ∧ b < s.heap.size ∧ ∀ k, k < tbl.length → s.heap.size ≤ adr k
def LWs (p : Program) (l : Launch) (e : Env) (s : State) (m : MethodId) (below : List Frame) (meth : Method) (c : Code) (b : Nat) (D : va_G) (cA : Nat → ClassId) (adr : Nat → Nat) (mc ms pc : Nat) (st : List Value) (i : Int32) (h : AH) : Prop :=
  ∀ (H : Heap) (locs : List Loc) (ls : Array Slot), va_P D classes (wld cA adr h) H → va_S (Aw adr) s.heap H locs → lv_has ls 4 [(3, .int i), (2, .ref (adr 75)), (1, .ref (adr 0)), (0, .ref b)] →
  W p l e room_1 s m #[Value.ref b] below meth c H locs mc ms (lw_Z below #[Value.ref b] s) (F0 m pc ls st)
section Walk
variable {p : Program} {l : Launch} {e : Env} {s : State} {m : MethodId} {below : List Frame} {meth : Method} {c : Code} {b L : Nat} {xs : Nat → Int32} {D : va_G} {cA : Nat → ClassId} {adr : Nat → Nat} {mc ms pc : Nat} {st : List Value} {i : Int32} {h : AH}
theorem Lc.nb (X : Lc p s m meth c b L xs D cA adr) : ¬ Aw adr b := fun ⟨k, hk, e⟩ => by
  have := X.2.2.2.2.2.2.2 k hk
  have := X.2.2.2.2.2.2.1
  omega
theorem ls_x (X : Lc p s m meth c b L xs D cA adr) (hd : decode code pc = .ok (.aload_n 1, 1)) (k : LWs p l e s m below meth c b D cA adr mc ms (pc + 1) (.ref (adr 0) :: st) i h) : LWs p l e s m below meth c b D cA adr mc ms pc st i h := fun H locs ls hP hS hl =>
  lv_aload_n X.1.1 X.1.2.1 hd rfl (lv_at hl 2 rfl) (k H locs ls hP hS hl)
theorem ls_m (X : Lc p s m meth c b L xs D cA adr) (hd : decode code pc = .ok (.aload_n 2, 1)) (k : LWs p l e s m below meth c b D cA adr mc ms (pc + 1) (.ref (adr 75) :: st) i h) : LWs p l e s m below meth c b D cA adr mc ms pc st i h := fun H locs ls hP hS hl =>
  lv_aload_n X.1.1 X.1.2.1 hd rfl (lv_at hl 1 rfl) (k H locs ls hP hS hl)
theorem ls_arg {a : Int} {v : Int32} (X : Lc p s m meth c b L xs D cA adr) (hv : Int32.ofInt a = v) (hin : vp_in (i + v) L) (d0 : decode code pc = .ok (.aload_n 0, 1)) (d1 : decode code (pc + 1) = .ok (.iload_n 3, 1)) (d2 : decode code (pc + 1 + 1) = .ok (.iconst a, 1)) (d3 : decode code (pc + 1 + 1 + 1) = .ok (.iadd, 1)) (d4 : decode code (pc + 1 + 1 + 1 + 1) = .ok (.iaload, 1)) (k : LWs p l e s m below meth c b D cA adr mc ms (pc + 1 + 1 + 1 + 1 + 1) (.int (xs (i + v).toNatClampNeg) :: st) i h) : LWs p l e s m below meth c b D cA adr mc ms pc st i h := fun H locs ls hP hS hl => by
  refine lv_aload_n X.1.1 X.1.2.1 d0 rfl (lv_at hl 3 rfl) ?_
  refine lv_iload_n X.1.1 X.1.2.1 d1 rfl (lv_at hl 0 rfl) ?_
  refine lv_iconst X.1.1 X.1.2.1 d2 hv ?_
  refine lv_iadd X.1.1 X.1.2.1 d3 ?_
  exact va_sld X.1.1 X.1.2.1 X.2.2.2.2.2.1 X.2.2.2.2.2.2.1 X.nb hS hin d4 (k H locs ls hP hS hl)
theorem run_law {R : Room} {args a' : Array Value} {H : Heap} {locs : List Loc} {Q : State → Prop} {ls : Array Slot} {st0 rest : List Value} {r : Option Value} {h1 : AH}
    (hr : va_Run p l e R s m args below meth c H locs mc ms 0 0 (F0 m pc ls st0) rest (QcA D cA adr (r, h1) a') (Aw adr)) (hS : va_S (Aw adr) s.heap H locs)
    (kk : ∀ (H1 : Heap) (locs1 : List Loc), va_P D classes (wld cA adr h1) H1 → va_S (Aw adr) s.heap H1 locs1 → W p l e R s m args below meth c H1 locs1 mc ms Q (F0 m (pc + 3) ls (r.toList ++ rest))) : W p l e R s m args below meth c H locs mc ms Q (F0 m pc ls st0) := by
  intro T hT X
  obtain ⟨v, st₀, t, T', L', h0, X', hL, e1, e2, ⟨hv, hp, hz, hk⟩, st⟩ := hr T hT X
  cases hv
  rw [h0] at hz hk
  obtain ⟨t2, a1, b1⟩ := kk T'.heap (locs ++ L') (by rw [e1]; exact hp)
    ⟨Nat.le_trans hS.1 (by rw [e1]; exact hz), fun q h1 h2 => by rw [e1, hk q (Nat.lt_of_lt_of_le h1 hS.1) h2]; exact hS.2.1 q h1 h2, fun q hq => by
      rcases List.mem_append.mp hq with h | h
      · exact hS.2.2 q h
      · exact hL q h⟩ T' rfl X'
  exact ⟨t2, st t2 a1, b1⟩
theorem ls_cV {y : MethodName} {bytes : ByteArray} {maxL n' o ci idx k9 : Nat} {ret' : Option FieldType} {fs : List (Nat × Nat)} {q : vw_C} {As stk : List Value} {r : Value} {h1 : AH} (X : Lc p s m meth c b L xs D cA adr) (hok : Ok y bytes maxL ret' n' (.ref o :: As) h (some r, h1)) (hl : Cond.methodLink R_law idx y ∈ gtbl) (hm : MV y bytes maxL ret' k9) (ho : tbl[o]? = some (3, ci, fs)) (hc : classes[ci]? = some q) (hq : q.1 = y.cls) (hA : As.map (cv adr) = As) (hs : As.reverse ++ .ref (adr o) :: st = stk) (hn : n' ≤ 100) (hk : As.length = k9) (hst : (st.map fun v => v.category).sum ≤ 8) (hd : decode code pc = .ok (.invokevirtual idx, 3))
    (k : LWs p l e s m below meth c b D cA adr mc ms (pc + 3) (r :: st) i h1) (hmc : mc ≤ 600000) (hms : ms ≤ 7302250) : LWs p l e s m below meth c b D cA adr mc ms pc stk i h := by
  intro H locs ls hP hS hll
  subst hs
  obtain ⟨⟨hcode, hini, hyd, hmx⟩, hinst, hsel⟩ := hm
  have hPre : PreV s H y.cls (adr o) (PcA D cA adr (.ref o :: As) h) (As.map (cv adr)) := ⟨pcA_blind, by rw [← hq]; exact va_recv X.2.2.2.1.1 hP hc (wld_at ho), fun U hU hW => ⟨rfl, X.2.2.2.1.later hS hU hW, by rw [hU]; exact hP⟩⟩
  rw [hA] at hPre
  have hR : (rmH n').frames + 1 ≤ room_1.frames ∧ 8 + (maxL + 11) + (rmH n').locals ≤ room_1.locals := ⟨by show n' + 1 ≤ 2048; omega, by show 8 + (maxL + 11) + 40 * n' ≤ 84000; omega⟩
  have key : va_Run p l e room_1 s m #[Value.ref b] below meth c H locs mc ms 0 0 (F0 m pc ls (As.reverse ++ .ref (adr o) :: st)) st (QcA D cA adr (some r, h1) (Value.ref (adr o) :: As).toArray) (Aw adr) :=
    va_runV X.1 (hok l D cA adr X.2.2.2.2.1) ⟨callB_of k9 X.1.2.2.2.2 (gtbl_code hcode) rfl rfl rfl (X.1.2.2.2.2 _ hini) (X.1.2.2.2.2 _ hl) hyd hR, X.1.2.2.2.2 _ hinst, X.1.2.2.2.2 _ hsel⟩ hPre rfl hk hll.1 rfl (lv_room hst) hd ⟨hmc, hms⟩
  exact run_law key hS (fun H1 locs1 hP1 hS1 => k H1 locs1 ls hP1 hS1 hll)
theorem ls_eq {x : Int32} {off : Int} {tgt : Nat} (X : Lc p s m meth c b L xs D cA adr) (hd : decode code pc = .ok (.if_icmp .eq off, 3)) (ht : (pc : Int) + off = (tgt : Int)) (k : LWs p l e s m below meth c b D cA adr mc ms tgt st i h) : LWs p l e s m below meth c b D cA adr mc ms pc (.int x :: .int x :: st) i h := fun H locs ls hP hS hl =>
  lv_icmp_eq X.1.1 X.1.2.1 hd ht (fun _ => k H locs ls hP hS hl) (fun n => absurd rfl n)
theorem ls_leq {x : Int64} {off : Int} {tgt : Nat} (X : Lc p s m meth c b L xs D cA adr) (hd0 : decode code pc = .ok (.lcmp, 1)) (hd : decode code (pc + 1) = .ok (.ifCond .eq off, 3)) (ht : ((pc + 1 : Nat) : Int) + off = (tgt : Int)) (k : LWs p l e s m below meth c b D cA adr mc ms tgt st i h) : LWs p l e s m below meth c b D cA adr mc ms pc (.long x :: .long x :: st) i h := fun H locs ls hP hS hl => by
  refine W.lcmp X.1.1 X.1.2.1 hd0 ?_
  have e0 : lg_cmp x x = 0 := by
    unfold lg_cmp
    rw [if_neg (Int64.lt_irrefl), if_pos rfl]
  rw [e0]
  exact lv_if_eq X.1.1 X.1.2.1 hd ht (fun _ => k H locs ls hP hS hl) (fun n => absurd rfl n)
end Walk
