/-! ===== rows over Sim: one an instruction ===== -/
def jrem (x y : Int32) : Int32 := x - x / y * y
def jremL (x y : Int64) : Int64 := x - x / y * y
def jshl (x y : Int32) : Int32 := x <<< (y &&& 31)
def jshr (x y : Int32) : Int32 := x >>> (y &&& 31)
def jushr (x y : Int32) : Int32 := (x.toUInt32 >>> (y.toUInt32 &&& Int32.toUInt32 31)).toInt32
def jshlL (x : Int64) (y : Int32) : Int64 := x <<< (y.toInt64 &&& 63)
def jshrL (x : Int64) (y : Int32) : Int64 := x >>> (y.toInt64 &&& 63)
def ji2b (x : Int32) : Int32 := x.toInt8.toInt32
def ji2c (x : Int32) : Int32 := (x.toUInt32 % 65536).toInt32
section SimRows
variable {β : Type} {own : String} {cc : ByteArray} {nL : Nat} {ret : Option FieldType} {n : Nat} {out : β → Option (Option Value × AH)} {t : β} {pc : Nat} {L : List (Nat × Value)} {st : List Value} {h : AH}
theorem sim_iadd {x y : Int32} (hd : decode cc pc = .ok (.iadd, 1)) (k : Sim own cc nL ret n out t (pc + 1) L (.int (x + y) :: st) h) : Sim own cc nL ret n out t pc L (.int y :: .int x :: st) h := by
  intro p l e s m args below meth c D cA adr X a ha H locs ls hP hS hl
  exact lv_iadd X.1.1 X.1.2.1 hd (k p l e s m args below meth c D cA adr X a ha H locs ls hP hS hl)
theorem sim_isub {x y : Int32} (hd : decode cc pc = .ok (.isub, 1)) (k : Sim own cc nL ret n out t (pc + 1) L (.int (x - y) :: st) h) : Sim own cc nL ret n out t pc L (.int y :: .int x :: st) h := by
  intro p l e s m args below meth c D cA adr X a ha H locs ls hP hS hl
  exact lv_isub X.1.1 X.1.2.1 hd (k p l e s m args below meth c D cA adr X a ha H locs ls hP hS hl)
theorem sim_imul {x y : Int32} (hd : decode cc pc = .ok (.imul, 1)) (k : Sim own cc nL ret n out t (pc + 1) L (.int (x * y) :: st) h) : Sim own cc nL ret n out t pc L (.int y :: .int x :: st) h := by
  intro p l e s m args below meth c D cA adr X a ha H locs ls hP hS hl
  exact lv_imul X.1.1 X.1.2.1 hd (k p l e s m args below meth c D cA adr X a ha H locs ls hP hS hl)
theorem sim_iand {x y : Int32} (hd : decode cc pc = .ok (.iand, 1)) (k : Sim own cc nL ret n out t (pc + 1) L (.int (x &&& y) :: st) h) : Sim own cc nL ret n out t pc L (.int y :: .int x :: st) h := by
  intro p l e s m args below meth c D cA adr X a ha H locs ls hP hS hl
  exact lv_iand X.1.1 X.1.2.1 hd (k p l e s m args below meth c D cA adr X a ha H locs ls hP hS hl)
theorem sim_ior {x y : Int32} (hd : decode cc pc = .ok (.ior, 1)) (k : Sim own cc nL ret n out t (pc + 1) L (.int (x ||| y) :: st) h) : Sim own cc nL ret n out t pc L (.int y :: .int x :: st) h := by
  intro p l e s m args below meth c D cA adr X a ha H locs ls hP hS hl
  exact lv_ior X.1.1 X.1.2.1 hd (k p l e s m args below meth c D cA adr X a ha H locs ls hP hS hl)
theorem sim_ixor {x y : Int32} (hd : decode cc pc = .ok (.ixor, 1)) (k : Sim own cc nL ret n out t (pc + 1) L (.int (x ^^^ y) :: st) h) : Sim own cc nL ret n out t pc L (.int y :: .int x :: st) h := by
  intro p l e s m args below meth c D cA adr X a ha H locs ls hP hS hl
  exact lv_ixor X.1.1 X.1.2.1 hd (k p l e s m args below meth c D cA adr X a ha H locs ls hP hS hl)
theorem sim_ishl {x y : Int32} (hd : decode cc pc = .ok (.ishl, 1)) (k : Sim own cc nL ret n out t (pc + 1) L (.int (jshl x y) :: st) h) : Sim own cc nL ret n out t pc L (.int y :: .int x :: st) h := by
  intro p l e s m args below meth c D cA adr X a ha H locs ls hP hS hl
  exact lv_ishl X.1.1 X.1.2.1 hd (k p l e s m args below meth c D cA adr X a ha H locs ls hP hS hl)
theorem sim_ishr {x y : Int32} (hd : decode cc pc = .ok (.ishr, 1)) (k : Sim own cc nL ret n out t (pc + 1) L (.int (jshr x y) :: st) h) : Sim own cc nL ret n out t pc L (.int y :: .int x :: st) h := by
  intro p l e s m args below meth c D cA adr X a ha H locs ls hP hS hl
  exact lv_ishr X.1.1 X.1.2.1 hd (k p l e s m args below meth c D cA adr X a ha H locs ls hP hS hl)
theorem sim_iushr {x y : Int32} (hd : decode cc pc = .ok (.iushr, 1)) (k : Sim own cc nL ret n out t (pc + 1) L (.int (jushr x y) :: st) h) : Sim own cc nL ret n out t pc L (.int y :: .int x :: st) h := by
  intro p l e s m args below meth c D cA adr X a ha H locs ls hP hS hl
  exact lv_iushr X.1.1 X.1.2.1 hd rfl (k p l e s m args below meth c D cA adr X a ha H locs ls hP hS hl)
theorem sim_ineg {x : Int32} (hd : decode cc pc = .ok (.ineg, 1)) (k : Sim own cc nL ret n out t (pc + 1) L (.int (-x) :: st) h) : Sim own cc nL ret n out t pc L (.int x :: st) h := by
  intro p l e s m args below meth c D cA adr X a ha H locs ls hP hS hl
  exact lv_ineg X.1.1 X.1.2.1 hd (k p l e s m args below meth c D cA adr X a ha H locs ls hP hS hl)
theorem sim_idiv {x y : Int32} (hy : ¬ y = 0) (hd : decode cc pc = .ok (.idiv, 1)) (k : Sim own cc nL ret n out t (pc + 1) L (.int (x / y) :: st) h) : Sim own cc nL ret n out t pc L (.int y :: .int x :: st) h := by
  intro p l e s m args below meth c D cA adr X a ha H locs ls hP hS hl
  exact lv_idiv X.1.1 X.1.2.1 hd hy (k p l e s m args below meth c D cA adr X a ha H locs ls hP hS hl)
theorem sim_irem {x y : Int32} (hy : ¬ y = 0) (hd : decode cc pc = .ok (.irem, 1)) (k : Sim own cc nL ret n out t (pc + 1) L (.int (jrem x y) :: st) h) : Sim own cc nL ret n out t pc L (.int y :: .int x :: st) h := by
  intro p l e s m args below meth c D cA adr X a ha H locs ls hP hS hl
  exact lv_irem X.1.1 X.1.2.1 hd hy (k p l e s m args below meth c D cA adr X a ha H locs ls hP hS hl)
theorem sim_ladd {x y : Int64} (hd : decode cc pc = .ok (.ladd, 1)) (k : Sim own cc nL ret n out t (pc + 1) L (.long (x + y) :: st) h) : Sim own cc nL ret n out t pc L (.long y :: .long x :: st) h := by
  intro p l e s m args below meth c D cA adr X a ha H locs ls hP hS hl
  exact lv_ladd X.1.1 X.1.2.1 hd (k p l e s m args below meth c D cA adr X a ha H locs ls hP hS hl)
theorem sim_lmul {x y : Int64} (hd : decode cc pc = .ok (.lmul, 1)) (k : Sim own cc nL ret n out t (pc + 1) L (.long (x * y) :: st) h) : Sim own cc nL ret n out t pc L (.long y :: .long x :: st) h := by
  intro p l e s m args below meth c D cA adr X a ha H locs ls hP hS hl
  exact lv_lmul X.1.1 X.1.2.1 hd (k p l e s m args below meth c D cA adr X a ha H locs ls hP hS hl)
theorem sim_land {x y : Int64} (hd : decode cc pc = .ok (.land, 1)) (k : Sim own cc nL ret n out t (pc + 1) L (.long (x &&& y) :: st) h) : Sim own cc nL ret n out t pc L (.long y :: .long x :: st) h := by
  intro p l e s m args below meth c D cA adr X a ha H locs ls hP hS hl
  exact lv_land X.1.1 X.1.2.1 hd (k p l e s m args below meth c D cA adr X a ha H locs ls hP hS hl)
theorem sim_lor {x y : Int64} (hd : decode cc pc = .ok (.lor, 1)) (k : Sim own cc nL ret n out t (pc + 1) L (.long (x ||| y) :: st) h) : Sim own cc nL ret n out t pc L (.long y :: .long x :: st) h := by
  intro p l e s m args below meth c D cA adr X a ha H locs ls hP hS hl
  exact lv_lor X.1.1 X.1.2.1 hd (k p l e s m args below meth c D cA adr X a ha H locs ls hP hS hl)
theorem sim_lxor {x y : Int64} (hd : decode cc pc = .ok (.lxor, 1)) (k : Sim own cc nL ret n out t (pc + 1) L (.long (x ^^^ y) :: st) h) : Sim own cc nL ret n out t pc L (.long y :: .long x :: st) h := by
  intro p l e s m args below meth c D cA adr X a ha H locs ls hP hS hl
  exact lv_lxor X.1.1 X.1.2.1 hd (k p l e s m args below meth c D cA adr X a ha H locs ls hP hS hl)
theorem sim_ldiv {x y : Int64} (hy : ¬ y = 0) (hd : decode cc pc = .ok (.ldiv, 1)) (k : Sim own cc nL ret n out t (pc + 1) L (.long (x / y) :: st) h) : Sim own cc nL ret n out t pc L (.long y :: .long x :: st) h := by
  intro p l e s m args below meth c D cA adr X a ha H locs ls hP hS hl
  exact lv_ldiv X.1.1 X.1.2.1 hd hy (k p l e s m args below meth c D cA adr X a ha H locs ls hP hS hl)
theorem sim_lrem {x y : Int64} (hy : ¬ y = 0) (hd : decode cc pc = .ok (.lrem, 1)) (k : Sim own cc nL ret n out t (pc + 1) L (.long (jremL x y) :: st) h) : Sim own cc nL ret n out t pc L (.long y :: .long x :: st) h := by
  intro p l e s m args below meth c D cA adr X a ha H locs ls hP hS hl
  exact lv_lrem X.1.1 X.1.2.1 hd hy (k p l e s m args below meth c D cA adr X a ha H locs ls hP hS hl)
theorem sim_lshl {x : Int64} {y : Int32} (hd : decode cc pc = .ok (.lshl, 1)) (k : Sim own cc nL ret n out t (pc + 1) L (.long (jshlL x y) :: st) h) : Sim own cc nL ret n out t pc L (.int y :: .long x :: st) h := by
  intro p l e s m args below meth c D cA adr X a ha H locs ls hP hS hl
  exact lv_lshl X.1.1 X.1.2.1 hd rfl (k p l e s m args below meth c D cA adr X a ha H locs ls hP hS hl)
theorem sim_lshr {x : Int64} {y : Int32} (hd : decode cc pc = .ok (.lshr, 1)) (k : Sim own cc nL ret n out t (pc + 1) L (.long (jshrL x y) :: st) h) : Sim own cc nL ret n out t pc L (.int y :: .long x :: st) h := by
  intro p l e s m args below meth c D cA adr X a ha H locs ls hP hS hl
  exact lv_lshr X.1.1 X.1.2.1 hd rfl (k p l e s m args below meth c D cA adr X a ha H locs ls hP hS hl)
theorem sim_lcmp {x y : Int64} (hd : decode cc pc = .ok (.lcmp, 1)) (k : Sim own cc nL ret n out t (pc + 1) L (.int (lg_cmp x y) :: st) h) : Sim own cc nL ret n out t pc L (.long y :: .long x :: st) h := by
  intro p l e s m args below meth c D cA adr X a ha H locs ls hP hS hl
  exact W.lcmp X.1.1 X.1.2.1 hd (k p l e s m args below meth c D cA adr X a ha H locs ls hP hS hl)
theorem sim_i2l {x : Int32} (hd : decode cc pc = .ok (.i2l, 1)) (k : Sim own cc nL ret n out t (pc + 1) L (.long x.toInt64 :: st) h) : Sim own cc nL ret n out t pc L (.int x :: st) h := by
  intro p l e s m args below meth c D cA adr X a ha H locs ls hP hS hl
  exact lv_i2l X.1.1 X.1.2.1 hd rfl (k p l e s m args below meth c D cA adr X a ha H locs ls hP hS hl)
theorem sim_i2b {x : Int32} (hd : decode cc pc = .ok (.i2b, 1)) (k : Sim own cc nL ret n out t (pc + 1) L (.int (ji2b x) :: st) h) : Sim own cc nL ret n out t pc L (.int x :: st) h := by
  intro p l e s m args below meth c D cA adr X a ha H locs ls hP hS hl
  exact lv_i2b X.1.1 X.1.2.1 hd rfl (k p l e s m args below meth c D cA adr X a ha H locs ls hP hS hl)
theorem sim_i2c {x : Int32} (hd : decode cc pc = .ok (.i2c, 1)) (k : Sim own cc nL ret n out t (pc + 1) L (.int (ji2c x) :: st) h) : Sim own cc nL ret n out t pc L (.int x :: st) h := by
  intro p l e s m args below meth c D cA adr X a ha H locs ls hP hS hl
  exact lv_i2c X.1.1 X.1.2.1 hd rfl (k p l e s m args below meth c D cA adr X a ha H locs ls hP hS hl)
theorem sim_iconst {z : Int} {v : Int32} (hv : Int32.ofInt z = v) (hd : decode cc pc = .ok (.iconst z, 1)) (k : Sim own cc nL ret n out t (pc + 1) L (.int v :: st) h) : Sim own cc nL ret n out t pc L st h := by
  intro p l e s m args below meth c D cA adr X a ha H locs ls hP hS hl
  exact lv_iconst X.1.1 X.1.2.1 hd hv (k p l e s m args below meth c D cA adr X a ha H locs ls hP hS hl)
theorem sim_bipush {z : Int} {v : Int32} (hv : (Int8.ofInt z).toInt32 = v) (hd : decode cc pc = .ok (.bipush z, 2)) (k : Sim own cc nL ret n out t (pc + 2) L (.int v :: st) h) : Sim own cc nL ret n out t pc L st h := by
  intro p l e s m args below meth c D cA adr X a ha H locs ls hP hS hl
  exact lv_bipush X.1.1 X.1.2.1 hd hv (k p l e s m args below meth c D cA adr X a ha H locs ls hP hS hl)
theorem sim_sipush {z : Int} {v : Int32} (hv : (Int16.ofInt z).toInt32 = v) (hd : decode cc pc = .ok (.sipush z, 3)) (k : Sim own cc nL ret n out t (pc + 3) L (.int v :: st) h) : Sim own cc nL ret n out t pc L st h := by
  intro p l e s m args below meth c D cA adr X a ha H locs ls hP hS hl
  exact lv_sipush X.1.1 X.1.2.1 hd hv (k p l e s m args below meth c D cA adr X a ha H locs ls hP hS hl)
theorem sim_lconst {z : Fin 2} {v : Int64} (hv : Int64.ofNat (z : Nat) = v) (hd : decode cc pc = .ok (.lconst z, 1)) (k : Sim own cc nL ret n out t (pc + 1) L (.long v :: st) h) : Sim own cc nL ret n out t pc L st h := by
  intro p l e s m args below meth c D cA adr X a ha H locs ls hP hS hl
  exact lv_lconst X.1.1 X.1.2.1 hd hv (k p l e s m args below meth c D cA adr X a ha H locs ls hP hS hl)
theorem sim_dup {v : Value} (hd : decode cc pc = .ok (.dup, 1)) (hv : v.category = 1) (k : Sim own cc nL ret n out t (pc + 1) L (v :: v :: st) h) : Sim own cc nL ret n out t pc L (v :: st) h := by
  intro p l e s m args below meth c D cA adr X a ha H locs ls hP hS hl
  exact lv_dup X.1.1 X.1.2.1 hd ((cv_cat adr v).trans hv) (k p l e s m args below meth c D cA adr X a ha H locs ls hP hS hl)
theorem sim_pop {v : Value} (hd : decode cc pc = .ok (.pop, 1)) (hv : v.category = 1) (k : Sim own cc nL ret n out t (pc + 1) L st h) : Sim own cc nL ret n out t pc L (v :: st) h := by
  intro p l e s m args below meth c D cA adr X a ha H locs ls hP hS hl
  exact lv_pop X.1.1 X.1.2.1 hd ((cv_cat adr v).trans hv) (k p l e s m args below meth c D cA adr X a ha H locs ls hP hS hl)
theorem sim_iload_n {j : Fin 4} {x : Int32} (k0 : Nat) (hL : L[k0]? = some ((j : Nat), .int x)) (hd : decode cc pc = .ok (.iload_n j, 1)) (k : Sim own cc nL ret n out t (pc + 1) L (.int x :: st) h) : Sim own cc nL ret n out t pc L st h := by
  intro p l e s m args below meth c D cA adr X a ha H locs ls hP hS hl
  exact lv_iload_n X.1.1 X.1.2.1 hd rfl (lv_at hl k0 (cvl_at hL)) (k p l e s m args below meth c D cA adr X a ha H locs ls hP hS hl)
theorem sim_iload {j : Nat} {x : Int32} (k0 : Nat) (hL : L[k0]? = some (j, .int x)) (hd : decode cc pc = .ok (.iload j, 2)) (k : Sim own cc nL ret n out t (pc + 2) L (.int x :: st) h) : Sim own cc nL ret n out t pc L st h := by
  intro p l e s m args below meth c D cA adr X a ha H locs ls hP hS hl
  exact lv_iload X.1.1 X.1.2.1 hd (lv_at hl k0 (cvl_at hL)) (k p l e s m args below meth c D cA adr X a ha H locs ls hP hS hl)
theorem sim_lload_n {j : Fin 4} {x : Int64} (k0 : Nat) (hL : L[k0]? = some ((j : Nat), .long x)) (hd : decode cc pc = .ok (.lload_n j, 1)) (k : Sim own cc nL ret n out t (pc + 1) L (.long x :: st) h) : Sim own cc nL ret n out t pc L st h := by
  intro p l e s m args below meth c D cA adr X a ha H locs ls hP hS hl
  exact lv_lload_n X.1.1 X.1.2.1 hd rfl (lv_at hl k0 (cvl_at hL)) (k p l e s m args below meth c D cA adr X a ha H locs ls hP hS hl)
theorem sim_lload {j : Nat} {x : Int64} (k0 : Nat) (hL : L[k0]? = some (j, .long x)) (hd : decode cc pc = .ok (.lload j, 2)) (k : Sim own cc nL ret n out t (pc + 2) L (.long x :: st) h) : Sim own cc nL ret n out t pc L st h := by
  intro p l e s m args below meth c D cA adr X a ha H locs ls hP hS hl
  exact lv_lload X.1.1 X.1.2.1 hd (lv_at hl k0 (cvl_at hL)) (k p l e s m args below meth c D cA adr X a ha H locs ls hP hS hl)
theorem sim_aload_n {j : Fin 4} {x : Nat} (k0 : Nat) (hL : L[k0]? = some ((j : Nat), .ref x)) (hd : decode cc pc = .ok (.aload_n j, 1)) (k : Sim own cc nL ret n out t (pc + 1) L (.ref x :: st) h) : Sim own cc nL ret n out t pc L st h := by
  intro p l e s m args below meth c D cA adr X a ha H locs ls hP hS hl
  exact lv_aload_n X.1.1 X.1.2.1 hd rfl (lv_at hl k0 (cvl_at hL)) (k p l e s m args below meth c D cA adr X a ha H locs ls hP hS hl)
theorem sim_aload {j : Nat} {x : Nat} (k0 : Nat) (hL : L[k0]? = some (j, .ref x)) (hd : decode cc pc = .ok (.aload j, 2)) (k : Sim own cc nL ret n out t (pc + 2) L (.ref x :: st) h) : Sim own cc nL ret n out t pc L st h := by
  intro p l e s m args below meth c D cA adr X a ha H locs ls hP hS hl
  exact lv_aload X.1.1 X.1.2.1 hd (lv_at hl k0 (cvl_at hL)) (k p l e s m args below meth c D cA adr X a ha H locs ls hP hS hl)
theorem sim_istore_n {j : Fin 4} {x : Int32} {L' : List (Nat × Value)} (hL : lvs L (j : Nat) (.int x) = L') (hn : (j : Nat) < nL) (hd : decode cc pc = .ok (.istore_n j, 1)) (k : Sim own cc nL ret n out t (pc + 1) L' st h) : Sim own cc nL ret n out t pc L (.int x :: st) h := by
  intro p l e s m args below meth c D cA adr X a ha H locs ls hP hS hl
  exact lv_istore_n X.1.1 X.1.2.1 hd rfl hl hn (lvs_cv adr L j (.int x)) (fun ls' hl' => k p l e s m args below meth c D cA adr X a ha H locs ls' hP hS (by rw [← hL]; exact hl'))
theorem sim_istore {j : Nat} {x : Int32} {L' : List (Nat × Value)} (hL : lvs L j (.int x) = L') (hn : j < nL) (hd : decode cc pc = .ok (.istore j, 2)) (k : Sim own cc nL ret n out t (pc + 2) L' st h) : Sim own cc nL ret n out t pc L (.int x :: st) h := by
  intro p l e s m args below meth c D cA adr X a ha H locs ls hP hS hl
  exact lv_istore X.1.1 X.1.2.1 hd hl hn (lvs_cv adr L j (.int x)) (fun ls' hl' => k p l e s m args below meth c D cA adr X a ha H locs ls' hP hS (by rw [← hL]; exact hl'))
theorem sim_lstore_n {j : Fin 4} {x : Int64} {L' : List (Nat × Value)} (hL : lvs2 L (j : Nat) (.long x) = L') (hn : (j : Nat) + 1 < nL) (hd : decode cc pc = .ok (.lstore_n j, 1)) (k : Sim own cc nL ret n out t (pc + 1) L' st h) : Sim own cc nL ret n out t pc L (.long x :: st) h := by
  intro p l e s m args below meth c D cA adr X a ha H locs ls hP hS hl
  exact lv_lstore_n X.1.1 X.1.2.1 hd rfl hl hn (lvs2_cv adr L j (.long x)) (fun ls' hl' => k p l e s m args below meth c D cA adr X a ha H locs ls' hP hS (by rw [← hL]; exact hl'))
theorem sim_lstore {j : Nat} {x : Int64} {L' : List (Nat × Value)} (hL : lvs2 L j (.long x) = L') (hn : j + 1 < nL) (hd : decode cc pc = .ok (.lstore j, 2)) (k : Sim own cc nL ret n out t (pc + 2) L' st h) : Sim own cc nL ret n out t pc L (.long x :: st) h := by
  intro p l e s m args below meth c D cA adr X a ha H locs ls hP hS hl
  exact lv_lstore X.1.1 X.1.2.1 hd hl hn (lvs2_cv adr L j (.long x)) (fun ls' hl' => k p l e s m args below meth c D cA adr X a ha H locs ls' hP hS (by rw [← hL]; exact hl'))
theorem sim_astore_n {j : Fin 4} {x : Nat} {L' : List (Nat × Value)} (hL : lvs L (j : Nat) (.ref x) = L') (hn : (j : Nat) < nL) (hd : decode cc pc = .ok (.astore_n j, 1)) (k : Sim own cc nL ret n out t (pc + 1) L' st h) : Sim own cc nL ret n out t pc L (.ref x :: st) h := by
  intro p l e s m args below meth c D cA adr X a ha H locs ls hP hS hl
  exact lv_astore_n X.1.1 X.1.2.1 hd rfl hl hn (lvs_cv adr L j (.ref x)) (fun ls' hl' => k p l e s m args below meth c D cA adr X a ha H locs ls' hP hS (by rw [← hL]; exact hl'))
theorem sim_iinc {j : Nat} {z : Int} {x v : Int32} {L' : List (Nat × Value)} (k0 : Nat) (hk : L[k0]? = some (j, .int x)) (hv : x + Int32.ofInt z = v) (hL : lvs L j (.int v) = L') (hn : j < nL) (hd : decode cc pc = .ok (.iinc j z, 3)) (k : Sim own cc nL ret n out t (pc + 3) L' st h) : Sim own cc nL ret n out t pc L st h := by
  intro p l e s m args below meth c D cA adr X a ha H locs ls hP hS hl
  exact lv_iinc X.1.1 X.1.2.1 hd hl (k := k0) (cvl_at hk) hv hn (lvs_cv adr L j (.int v)) (fun ls' hl' => k p l e s m args below meth c D cA adr X a ha H locs ls' hP hS (by rw [← hL]; exact hl'))
theorem sim_icmp_eq {x y : Int32} {off : Int} {tgt : Nat} {t1 t2 : β} (hd : decode cc pc = .ok (.if_icmp .eq off, 3)) (ht : (pc : Int) + off = (tgt : Int)) (k1 : x = y → Sim own cc nL ret n out t1 tgt L st h) (k2 : ¬ x = y → Sim own cc nL ret n out t2 (pc + 3) L st h) : Sim own cc nL ret n out (if x = y then t1 else t2) pc L (.int y :: .int x :: st) h := by
  intro p l e s m args below meth c9 D cA adr X a ha H locs ls hP hS hl
  refine lv_icmp_eq X.1.1 X.1.2.1 hd ht (fun c => ?_) (fun c => ?_)
  · rw [if_pos c] at ha; exact k1 c p l e s m args below meth c9 D cA adr X a ha H locs ls hP hS hl
  · rw [if_neg c] at ha; exact k2 c p l e s m args below meth c9 D cA adr X a ha H locs ls hP hS hl
theorem sim_if_eq {x : Int32} {off : Int} {tgt : Nat} {t1 t2 : β} (hd : decode cc pc = .ok (.ifCond .eq off, 3)) (ht : (pc : Int) + off = (tgt : Int)) (k1 : x = 0 → Sim own cc nL ret n out t1 tgt L st h) (k2 : ¬ x = 0 → Sim own cc nL ret n out t2 (pc + 3) L st h) : Sim own cc nL ret n out (if x = 0 then t1 else t2) pc L (.int x :: st) h := by
  intro p l e s m args below meth c9 D cA adr X a ha H locs ls hP hS hl
  refine lv_if_eq X.1.1 X.1.2.1 hd ht (fun c => ?_) (fun c => ?_)
  · rw [if_pos c] at ha; exact k1 c p l e s m args below meth c9 D cA adr X a ha H locs ls hP hS hl
  · rw [if_neg c] at ha; exact k2 c p l e s m args below meth c9 D cA adr X a ha H locs ls hP hS hl
theorem sim_icmp_ne {x y : Int32} {off : Int} {tgt : Nat} {t1 t2 : β} (hd : decode cc pc = .ok (.if_icmp .ne off, 3)) (ht : (pc : Int) + off = (tgt : Int)) (k1 : ¬ x = y → Sim own cc nL ret n out t1 tgt L st h) (k2 : x = y → Sim own cc nL ret n out t2 (pc + 3) L st h) : Sim own cc nL ret n out (if x = y then t2 else t1) pc L (.int y :: .int x :: st) h := by
  intro p l e s m args below meth c9 D cA adr X a ha H locs ls hP hS hl
  refine lv_icmp_ne X.1.1 X.1.2.1 hd ht (fun c => ?_) (fun c => ?_)
  · rw [if_neg c] at ha; exact k1 c p l e s m args below meth c9 D cA adr X a ha H locs ls hP hS hl
  · rw [if_pos c] at ha; exact k2 c p l e s m args below meth c9 D cA adr X a ha H locs ls hP hS hl
theorem sim_if_ne {x : Int32} {off : Int} {tgt : Nat} {t1 t2 : β} (hd : decode cc pc = .ok (.ifCond .ne off, 3)) (ht : (pc : Int) + off = (tgt : Int)) (k1 : ¬ x = 0 → Sim own cc nL ret n out t1 tgt L st h) (k2 : x = 0 → Sim own cc nL ret n out t2 (pc + 3) L st h) : Sim own cc nL ret n out (if x = 0 then t2 else t1) pc L (.int x :: st) h := by
  intro p l e s m args below meth c9 D cA adr X a ha H locs ls hP hS hl
  refine lv_if_ne X.1.1 X.1.2.1 hd ht (fun c => ?_) (fun c => ?_)
  · rw [if_neg c] at ha; exact k1 c p l e s m args below meth c9 D cA adr X a ha H locs ls hP hS hl
  · rw [if_pos c] at ha; exact k2 c p l e s m args below meth c9 D cA adr X a ha H locs ls hP hS hl
theorem sim_icmp_lt {x y : Int32} {off : Int} {tgt : Nat} {t1 t2 : β} (hd : decode cc pc = .ok (.if_icmp .lt off, 3)) (ht : (pc : Int) + off = (tgt : Int)) (k1 : x < y → Sim own cc nL ret n out t1 tgt L st h) (k2 : ¬ x < y → Sim own cc nL ret n out t2 (pc + 3) L st h) : Sim own cc nL ret n out (if x < y then t1 else t2) pc L (.int y :: .int x :: st) h := by
  intro p l e s m args below meth c9 D cA adr X a ha H locs ls hP hS hl
  refine lv_icmp_lt X.1.1 X.1.2.1 hd ht (fun c => ?_) (fun c => ?_)
  · rw [if_pos c] at ha; exact k1 c p l e s m args below meth c9 D cA adr X a ha H locs ls hP hS hl
  · rw [if_neg c] at ha; exact k2 c p l e s m args below meth c9 D cA adr X a ha H locs ls hP hS hl
theorem sim_if_lt {x : Int32} {off : Int} {tgt : Nat} {t1 t2 : β} (hd : decode cc pc = .ok (.ifCond .lt off, 3)) (ht : (pc : Int) + off = (tgt : Int)) (k1 : x < 0 → Sim own cc nL ret n out t1 tgt L st h) (k2 : ¬ x < 0 → Sim own cc nL ret n out t2 (pc + 3) L st h) : Sim own cc nL ret n out (if x < 0 then t1 else t2) pc L (.int x :: st) h := by
  intro p l e s m args below meth c9 D cA adr X a ha H locs ls hP hS hl
  refine lv_if_lt X.1.1 X.1.2.1 hd ht (fun c => ?_) (fun c => ?_)
  · rw [if_pos c] at ha; exact k1 c p l e s m args below meth c9 D cA adr X a ha H locs ls hP hS hl
  · rw [if_neg c] at ha; exact k2 c p l e s m args below meth c9 D cA adr X a ha H locs ls hP hS hl
theorem sim_icmp_ge {x y : Int32} {off : Int} {tgt : Nat} {t1 t2 : β} (hd : decode cc pc = .ok (.if_icmp .ge off, 3)) (ht : (pc : Int) + off = (tgt : Int)) (k1 : ¬ x < y → Sim own cc nL ret n out t1 tgt L st h) (k2 : x < y → Sim own cc nL ret n out t2 (pc + 3) L st h) : Sim own cc nL ret n out (if x < y then t2 else t1) pc L (.int y :: .int x :: st) h := by
  intro p l e s m args below meth c9 D cA adr X a ha H locs ls hP hS hl
  refine lv_icmp_ge X.1.1 X.1.2.1 hd ht (fun c => ?_) (fun c => ?_)
  · rw [if_neg (Int32.not_lt.mpr c)] at ha; exact k1 (Int32.not_lt.mpr c) p l e s m args below meth c9 D cA adr X a ha H locs ls hP hS hl
  · rw [if_pos (Int32.not_le.mp c)] at ha; exact k2 (Int32.not_le.mp c) p l e s m args below meth c9 D cA adr X a ha H locs ls hP hS hl
theorem sim_if_ge {x : Int32} {off : Int} {tgt : Nat} {t1 t2 : β} (hd : decode cc pc = .ok (.ifCond .ge off, 3)) (ht : (pc : Int) + off = (tgt : Int)) (k1 : ¬ x < 0 → Sim own cc nL ret n out t1 tgt L st h) (k2 : x < 0 → Sim own cc nL ret n out t2 (pc + 3) L st h) : Sim own cc nL ret n out (if x < 0 then t2 else t1) pc L (.int x :: st) h := by
  intro p l e s m args below meth c9 D cA adr X a ha H locs ls hP hS hl
  refine lv_if_ge X.1.1 X.1.2.1 hd ht (fun c => ?_) (fun c => ?_)
  · rw [if_neg (Int32.not_lt.mpr c)] at ha; exact k1 (Int32.not_lt.mpr c) p l e s m args below meth c9 D cA adr X a ha H locs ls hP hS hl
  · rw [if_pos (Int32.not_le.mp c)] at ha; exact k2 (Int32.not_le.mp c) p l e s m args below meth c9 D cA adr X a ha H locs ls hP hS hl
theorem sim_icmp_gt {x y : Int32} {off : Int} {tgt : Nat} {t1 t2 : β} (hd : decode cc pc = .ok (.if_icmp .gt off, 3)) (ht : (pc : Int) + off = (tgt : Int)) (k1 : y < x → Sim own cc nL ret n out t1 tgt L st h) (k2 : ¬ y < x → Sim own cc nL ret n out t2 (pc + 3) L st h) : Sim own cc nL ret n out (if y < x then t1 else t2) pc L (.int y :: .int x :: st) h := by
  intro p l e s m args below meth c9 D cA adr X a ha H locs ls hP hS hl
  refine lv_icmp_gt X.1.1 X.1.2.1 hd ht (fun c => ?_) (fun c => ?_)
  · rw [if_pos c] at ha; exact k1 c p l e s m args below meth c9 D cA adr X a ha H locs ls hP hS hl
  · rw [if_neg c] at ha; exact k2 c p l e s m args below meth c9 D cA adr X a ha H locs ls hP hS hl
theorem sim_if_gt {x : Int32} {off : Int} {tgt : Nat} {t1 t2 : β} (hd : decode cc pc = .ok (.ifCond .gt off, 3)) (ht : (pc : Int) + off = (tgt : Int)) (k1 : 0 < x → Sim own cc nL ret n out t1 tgt L st h) (k2 : ¬ 0 < x → Sim own cc nL ret n out t2 (pc + 3) L st h) : Sim own cc nL ret n out (if 0 < x then t1 else t2) pc L (.int x :: st) h := by
  intro p l e s m args below meth c9 D cA adr X a ha H locs ls hP hS hl
  refine lv_if_gt X.1.1 X.1.2.1 hd ht (fun c => ?_) (fun c => ?_)
  · rw [if_pos c] at ha; exact k1 c p l e s m args below meth c9 D cA adr X a ha H locs ls hP hS hl
  · rw [if_neg c] at ha; exact k2 c p l e s m args below meth c9 D cA adr X a ha H locs ls hP hS hl
theorem sim_icmp_le {x y : Int32} {off : Int} {tgt : Nat} {t1 t2 : β} (hd : decode cc pc = .ok (.if_icmp .le off, 3)) (ht : (pc : Int) + off = (tgt : Int)) (k1 : ¬ y < x → Sim own cc nL ret n out t1 tgt L st h) (k2 : y < x → Sim own cc nL ret n out t2 (pc + 3) L st h) : Sim own cc nL ret n out (if y < x then t2 else t1) pc L (.int y :: .int x :: st) h := by
  intro p l e s m args below meth c9 D cA adr X a ha H locs ls hP hS hl
  refine lv_icmp_le X.1.1 X.1.2.1 hd ht (fun c => ?_) (fun c => ?_)
  · rw [if_neg (Int32.not_lt.mpr c)] at ha; exact k1 (Int32.not_lt.mpr c) p l e s m args below meth c9 D cA adr X a ha H locs ls hP hS hl
  · rw [if_pos (Int32.not_le.mp c)] at ha; exact k2 (Int32.not_le.mp c) p l e s m args below meth c9 D cA adr X a ha H locs ls hP hS hl
theorem sim_if_le {x : Int32} {off : Int} {tgt : Nat} {t1 t2 : β} (hd : decode cc pc = .ok (.ifCond .le off, 3)) (ht : (pc : Int) + off = (tgt : Int)) (k1 : ¬ 0 < x → Sim own cc nL ret n out t1 tgt L st h) (k2 : 0 < x → Sim own cc nL ret n out t2 (pc + 3) L st h) : Sim own cc nL ret n out (if 0 < x then t2 else t1) pc L (.int x :: st) h := by
  intro p l e s m args below meth c9 D cA adr X a ha H locs ls hP hS hl
  refine lv_if_le X.1.1 X.1.2.1 hd ht (fun c => ?_) (fun c => ?_)
  · rw [if_neg (Int32.not_lt.mpr c)] at ha; exact k1 (Int32.not_lt.mpr c) p l e s m args below meth c9 D cA adr X a ha H locs ls hP hS hl
  · rw [if_pos (Int32.not_le.mp c)] at ha; exact k2 (Int32.not_le.mp c) p l e s m args below meth c9 D cA adr X a ha H locs ls hP hS hl
theorem sim_goto {off : Int} {tgt : Nat} (hd : decode cc pc = .ok (.goto off, 3)) (ht : (pc : Int) + off = (tgt : Int)) (k : Sim own cc nL ret n out t tgt L st h) : Sim own cc nL ret n out t pc L st h := by
  intro p l e s m args below meth c D cA adr X a ha H locs ls hP hS hl
  exact lv_goto X.1.1 X.1.2.1 hd ht (k p l e s m args below meth c D cA adr X a ha H locs ls hP hS hl)
theorem sim_case {t1 t2 : β} {dflt lo hi : Int} {offs : Array Int} {len : Nat} {x v : Int32} {off : Int} {tgt : Nat} (z : Int) (hd : decode cc pc = .ok (.tableswitch dflt lo hi offs, len)) (hv : v.toInt = z) (h1 : ¬ z < lo) (h2 : ¬ hi < z) (ho : offs[(z - lo).toNat]? = some off) (ht : (pc : Int) + off = (tgt : Int)) (k1 : Sim own cc nL ret n out t1 tgt L st h) (k2 : ¬ x.toInt = z → Sim own cc nL ret n out t2 pc L (.int x :: st) h) : Sim own cc nL ret n out (if x = v then t1 else t2) pc L (.int x :: st) h := by
  intro p l e s m args below meth c D cA adr X a ha H locs ls hP hS hl
  by_cases hx : x = v
  · rw [if_pos hx] at ha
    subst hx
    exact lv_tableIn X.1.1 X.1.2.1 hd (by rw [hv]; exact h1) (by rw [hv]; exact h2) (by rw [hv]; exact ho) ht (k1 p l e s m args below meth c D cA adr X a ha H locs ls hP hS hl)
  · rw [if_neg hx] at ha
    exact k2 (fun q => hx (Int32.toInt_inj.mp (q.trans hv.symm))) p l e s m args below meth c D cA adr X a ha H locs ls hP hS hl
theorem sim_dflt {dflt lo hi : Int} {offs : Array Int} {len : Nat} {x : Int32} {tgt : Nat} (hd : decode cc pc = .ok (.tableswitch dflt lo hi offs, len)) (hx : x.toInt < lo ∨ hi < x.toInt) (ht : (pc : Int) + dflt = (tgt : Int)) (k : Sim own cc nL ret n out t tgt L st h) : Sim own cc nL ret n out t pc L (.int x :: st) h := by
  intro p l e s m args below meth c D cA adr X a ha H locs ls hP hS hl
  exact lv_tableOut X.1.1 X.1.2.1 hd hx ht (k p l e s m args below meth c D cA adr X a ha H locs ls hP hS hl)
theorem sim_ldc {idx : Nat} {v : Int32} (hc : Cond.constant own idx v ∈ gtbl) (hd : decode cc pc = .ok (.ldc idx, 2)) (k : Sim own cc nL ret n out t (pc + 2) L (.int v :: st) h) : Sim own cc nL ret n out t pc L st h := by
  intro p l e s m args below meth c D cA adr X a ha H locs ls hP hS hl
  exact lv_ldc X.1.1 X.1.2.1 X.1.2.2.2.1 (X.1.2.2.2.2 _ hc) hd (k p l e s m args below meth c D cA adr X a ha H locs ls hP hS hl)
theorem sim_ldcw {idx : Nat} {v : Int32} (hc : Cond.constant own idx v ∈ gtbl) (hd : decode cc pc = .ok (.ldc_w idx, 3)) (k : Sim own cc nL ret n out t (pc + 3) L (.int v :: st) h) : Sim own cc nL ret n out t pc L st h := by
  intro p l e s m args below meth c D cA adr X a ha H locs ls hP hS hl
  exact lv_ldcw X.1.1 X.1.2.1 X.1.2.2.2.1 (X.1.2.2.2.2 _ hc) hd (k p l e s m args below meth c D cA adr X a ha H locs ls hP hS hl)
theorem sim_ldc2 {idx : Nat} {v : Int64} (hc : Cond.constantLong own idx v ∈ gtbl) (hd : decode cc pc = .ok (.ldc2_w idx, 3)) (k : Sim own cc nL ret n out t (pc + 3) L (.long v :: st) h) : Sim own cc nL ret n out t pc L st h := by
  intro p l e s m args below meth c D cA adr X a ha H locs ls hP hS hl
  exact lv_ldc2 X.1.1 X.1.2.1 X.1.2.2.2.1 (X.1.2.2.2.2 _ hc) hd (k p l e s m args below meth c D cA adr X a ha H locs ls hP hS hl)
theorem sim_ldcS {idx : Nat} (i : Nat) (hi : i < 7) (ho : (strO i).1 = own) (hx : (strO i).2.1 = idx) (hd : decode cc pc = .ok (.ldc idx, 2)) (k : Sim own cc nL ret n out t (pc + 2) L (.ref (200 + i) :: st) h) : Sim own cc nL ret n out t pc L st h := by
  intro p l e s m args below meth c D cA adr X a ha H locs ls hP hS hl
  have hr := X.2.2.2.1.2.2.2.1 i hi
  rw [ho, hx] at hr
  exact va_ldcS X.1.1 X.1.2.1 X.1.2.2.2.1 hr hd (k p l e s m args below meth c D cA adr X a ha H locs ls hP hS hl)
theorem sim_nmI {x : Int32} {f : Int32 → β} (k : ∀ v : Int32, Sim own cc nL ret n out (f v) pc L (.int v :: st) h) : Sim own cc nL ret n out (letT x f) pc L (.int x :: st) h := k x
theorem sim_nmJ {x : Int64} {f : Int64 → β} (k : ∀ v : Int64, Sim own cc nL ret n out (f v) pc L (.long v :: st) h) : Sim own cc nL ret n out (letT x f) pc L (.long x :: st) h := k x
theorem sim_nmH {f : AH → β} (k : ∀ g : AH, Sim own cc nL ret n out (f g) pc L st g) : Sim own cc nL ret n out (letT h f) pc L st h := k h
theorem sim_guard {α : Type} {oo : α → Option Value × AH} {t : Option α} {q : Prop} [Decidable q] (k : q → Sim own cc nL ret n (Option.map oo) t pc L st h) : Sim own cc nL ret n (Option.map oo) (if q then t else none) pc L st h := by
  intro p l e s m args below meth c D cA adr X a ha
  by_cases hq : q
  · rw [if_pos hq] at ha
    exact k hq p l e s m args below meth c D cA adr X a ha
  · rw [if_neg hq] at ha
    cases ha
theorem sim_nguard {α : Type} {oo : α → Option Value × AH} {t : Option α} {q : Prop} [Decidable q] (k : ¬ q → Sim own cc nL ret n (Option.map oo) t pc L st h) : Sim own cc nL ret n (Option.map oo) (if q then none else t) pc L st h := by
  intro p l e s m args below meth c D cA adr X a ha
  by_cases hq : q
  · rw [if_pos hq] at ha
    cases ha
  · rw [if_neg hq] at ha
    exact k hq p l e s m args below meth c D cA adr X a ha
theorem sim_none {α : Type} {oo : α → Option Value × AH} : Sim own cc nL ret n (Option.map oo) none pc L st h := by
  intro p l e s m args below meth c D cA adr X a ha
  cases ha
theorem sim_bind {α γ : Type} {oo : α → Option Value × AH} {f : Option γ} {g : γ → Option α} (k : ∀ b, f = some b → Sim own cc nL ret n (Option.map oo) (g b) pc L st h) : Sim own cc nL ret n (Option.map oo) (f.bind g) pc L st h := by
  intro p l e s m args below meth c D cA adr X a ha
  cases hf : f with
  | none => rw [hf] at ha; cases ha
  | some b => rw [hf] at ha; exact k b hf p l e s m args below meth c D cA adr X a ha
theorem sim_sub {L' : List (Nat × Value)} (ks : List Nat) (hL : lv_pick L ks = L') (k : Sim own cc nL ret n out t pc L' st h) : Sim own cc nL ret n out t pc L st h := by
  intro p l e s m args below meth c D cA adr X a ha H locs ls hP hS hl
  refine k p l e s m args below meth c D cA adr X a ha H locs ls hP hS (lv_sub hl ks ?_)
  rw [← hL]
  unfold lv_pick
  rw [List.map_filterMap]
  congr 1
  funext i
  rw [List.getElem?_map]
end SimRows
