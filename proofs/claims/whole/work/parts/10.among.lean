theorem dJ0_length_8abf5_0 : decode cJ0_length_8abf5 0 = .ok (.aload_n 0, 1) := by decide +kernel
theorem dJ0_length_8abf5_1 : decode cJ0_length_8abf5 1 = .ok (.getfield 9, 3) := by decide +kernel
theorem dJ0_length_8abf5_4 : decode cJ0_length_8abf5 4 = .ok (.arraylength, 1) := by decide +kernel
theorem dJ0_length_8abf5_5 : decode cJ0_length_8abf5 5 = .ok (.aload_n 0, 1) := by decide +kernel
theorem dJ0_length_8abf5_6 : decode cJ0_length_8abf5 6 = .ok (.invokevirtual 335, 3) := by decide +kernel
theorem dJ0_length_8abf5_9 : decode cJ0_length_8abf5 9 = .ok (.ishr, 1) := by decide +kernel
theorem dJ0_length_8abf5_10 : decode cJ0_length_8abf5 10 = .ok (.ireturn, 1) := by decide +kernel
theorem dJ0_indexOf_0f7a4_0 : decode cJ0_indexOf_0f7a4 0 = .ok (.aload_n 0, 1) := by decide +kernel
theorem dJ0_indexOf_0f7a4_1 : decode cJ0_indexOf_0f7a4 1 = .ok (.iload_n 1, 1) := by decide +kernel
theorem dJ0_indexOf_0f7a4_2 : decode cJ0_indexOf_0f7a4 2 = .ok (.iconst 0, 1) := by decide +kernel
theorem dJ0_indexOf_0f7a4_3 : decode cJ0_indexOf_0f7a4 3 = .ok (.invokevirtual 633, 3) := by decide +kernel
theorem dJ0_indexOf_0f7a4_6 : decode cJ0_indexOf_0f7a4 6 = .ok (.ireturn, 1) := by decide +kernel
theorem dJ0_indexOf_7cf53_0 : decode cJ0_indexOf_7cf53 0 = .ok (.aload_n 0, 1) := by decide +kernel
theorem dJ0_indexOf_7cf53_1 : decode cJ0_indexOf_7cf53 1 = .ok (.invokevirtual 492, 3) := by decide +kernel
theorem dJ0_indexOf_7cf53_4 : decode cJ0_indexOf_7cf53 4 = .ok (.ifCond .eq 19, 3) := by decide +kernel
theorem dJ0_indexOf_7cf53_7 : decode cJ0_indexOf_7cf53 7 = .ok (.aload_n 0, 1) := by decide +kernel
theorem dJ0_indexOf_7cf53_8 : decode cJ0_indexOf_7cf53 8 = .ok (.getfield 9, 3) := by decide +kernel
theorem dJ0_indexOf_7cf53_11 : decode cJ0_indexOf_7cf53 11 = .ok (.iload_n 1, 1) := by decide +kernel
theorem dJ0_indexOf_7cf53_12 : decode cJ0_indexOf_7cf53 12 = .ok (.iload_n 2, 1) := by decide +kernel
theorem dJ0_indexOf_7cf53_13 : decode cJ0_indexOf_7cf53 13 = .ok (.aload_n 0, 1) := by decide +kernel
theorem dJ0_indexOf_7cf53_14 : decode cJ0_indexOf_7cf53 14 = .ok (.invokevirtual 505, 3) := by decide +kernel
theorem dJ0_indexOf_7cf53_17 : decode cJ0_indexOf_7cf53 17 = .ok (.invokestatic 637, 3) := by decide +kernel
theorem dJ0_indexOf_7cf53_20 : decode cJ0_indexOf_7cf53 20 = .ok (.goto 16, 3) := by decide +kernel
theorem dJ0_indexOf_7cf53_23 : decode cJ0_indexOf_7cf53 23 = .ok (.aload_n 0, 1) := by decide +kernel
theorem dJ0_indexOf_7cf53_24 : decode cJ0_indexOf_7cf53 24 = .ok (.getfield 9, 3) := by decide +kernel
theorem dJ0_indexOf_7cf53_27 : decode cJ0_indexOf_7cf53 27 = .ok (.iload_n 1, 1) := by decide +kernel
theorem dJ0_indexOf_7cf53_28 : decode cJ0_indexOf_7cf53 28 = .ok (.iload_n 2, 1) := by decide +kernel
theorem dJ0_indexOf_7cf53_29 : decode cJ0_indexOf_7cf53 29 = .ok (.aload_n 0, 1) := by decide +kernel
theorem dJ0_indexOf_7cf53_30 : decode cJ0_indexOf_7cf53 30 = .ok (.invokevirtual 505, 3) := by decide +kernel
theorem dJ0_indexOf_7cf53_33 : decode cJ0_indexOf_7cf53 33 = .ok (.invokestatic 640, 3) := by decide +kernel
theorem dJ0_indexOf_7cf53_36 : decode cJ0_indexOf_7cf53 36 = .ok (.ireturn, 1) := by decide +kernel
theorem dJ0_coder_7d493_0 : decode cJ0_coder_7d493 0 = .ok (.getstatic 38, 3) := by decide +kernel
theorem dJ0_coder_7d493_3 : decode cJ0_coder_7d493 3 = .ok (.ifCond .eq 10, 3) := by decide +kernel
theorem dJ0_coder_7d493_6 : decode cJ0_coder_7d493 6 = .ok (.aload_n 0, 1) := by decide +kernel
theorem dJ0_coder_7d493_7 : decode cJ0_coder_7d493 7 = .ok (.getfield 15, 3) := by decide +kernel
theorem dJ0_coder_7d493_10 : decode cJ0_coder_7d493 10 = .ok (.goto 4, 3) := by decide +kernel
theorem dJ0_coder_7d493_13 : decode cJ0_coder_7d493 13 = .ok (.iconst 1, 1) := by decide +kernel
theorem dJ0_coder_7d493_14 : decode cJ0_coder_7d493 14 = .ok (.ireturn, 1) := by decide +kernel
theorem dJ0_isLatin1_aae02_0 : decode cJ0_isLatin1_aae02 0 = .ok (.getstatic 38, 3) := by decide +kernel
theorem dJ0_isLatin1_aae02_3 : decode cJ0_isLatin1_aae02 3 = .ok (.ifCond .eq 14, 3) := by decide +kernel
theorem dJ0_isLatin1_aae02_6 : decode cJ0_isLatin1_aae02 6 = .ok (.aload_n 0, 1) := by decide +kernel
theorem dJ0_isLatin1_aae02_7 : decode cJ0_isLatin1_aae02 7 = .ok (.getfield 15, 3) := by decide +kernel
theorem dJ0_isLatin1_aae02_10 : decode cJ0_isLatin1_aae02 10 = .ok (.ifCond .ne 7, 3) := by decide +kernel
theorem dJ0_isLatin1_aae02_13 : decode cJ0_isLatin1_aae02 13 = .ok (.iconst 1, 1) := by decide +kernel
theorem dJ0_isLatin1_aae02_14 : decode cJ0_isLatin1_aae02 14 = .ok (.goto 4, 3) := by decide +kernel
theorem dJ0_isLatin1_aae02_17 : decode cJ0_isLatin1_aae02 17 = .ok (.iconst 0, 1) := by decide +kernel
theorem dJ0_isLatin1_aae02_18 : decode cJ0_isLatin1_aae02 18 = .ok (.ireturn, 1) := by decide +kernel
theorem dJ1_canEncode_9a6ad_0 : decode cJ1_canEncode_9a6ad 0 = .ok (.iload_n 0, 1) := by decide +kernel
theorem dJ1_canEncode_9a6ad_1 : decode cJ1_canEncode_9a6ad 1 = .ok (.ifCond .lt 14, 3) := by decide +kernel
theorem dJ1_canEncode_9a6ad_4 : decode cJ1_canEncode_9a6ad 4 = .ok (.iload_n 0, 1) := by decide +kernel
theorem dJ1_canEncode_9a6ad_5 : decode cJ1_canEncode_9a6ad 5 = .ok (.sipush 255, 3) := by decide +kernel
theorem dJ1_canEncode_9a6ad_8 : decode cJ1_canEncode_9a6ad 8 = .ok (.if_icmp .gt 7, 3) := by decide +kernel
theorem dJ1_canEncode_9a6ad_11 : decode cJ1_canEncode_9a6ad 11 = .ok (.iconst 1, 1) := by decide +kernel
theorem dJ1_canEncode_9a6ad_12 : decode cJ1_canEncode_9a6ad 12 = .ok (.goto 4, 3) := by decide +kernel
theorem dJ1_canEncode_9a6ad_15 : decode cJ1_canEncode_9a6ad 15 = .ok (.iconst 0, 1) := by decide +kernel
theorem dJ1_canEncode_9a6ad_16 : decode cJ1_canEncode_9a6ad 16 = .ok (.ireturn, 1) := by decide +kernel
theorem dJ1_indexOf_4cfef_0 : decode cJ1_indexOf_4cfef 0 = .ok (.iload_n 1, 1) := by decide +kernel
theorem dJ1_indexOf_4cfef_1 : decode cJ1_indexOf_4cfef 1 = .ok (.invokestatic 88, 3) := by decide +kernel
theorem dJ1_indexOf_4cfef_4 : decode cJ1_indexOf_4cfef 4 = .ok (.ifCond .ne 5, 3) := by decide +kernel
theorem dJ1_indexOf_4cfef_7 : decode cJ1_indexOf_4cfef 7 = .ok (.iconst (-1), 1) := by decide +kernel
theorem dJ1_indexOf_4cfef_8 : decode cJ1_indexOf_4cfef 8 = .ok (.ireturn, 1) := by decide +kernel
theorem dJ1_indexOf_4cfef_9 : decode cJ1_indexOf_4cfef 9 = .ok (.iload_n 2, 1) := by decide +kernel
theorem dJ1_indexOf_4cfef_10 : decode cJ1_indexOf_4cfef 10 = .ok (.iconst 0, 1) := by decide +kernel
theorem dJ1_indexOf_4cfef_11 : decode cJ1_indexOf_4cfef 11 = .ok (.invokestatic 92, 3) := by decide +kernel
theorem dJ1_indexOf_4cfef_14 : decode cJ1_indexOf_4cfef 14 = .ok (.istore_n 2, 1) := by decide +kernel
theorem dJ1_indexOf_4cfef_15 : decode cJ1_indexOf_4cfef 15 = .ok (.iload_n 3, 1) := by decide +kernel
theorem dJ1_indexOf_4cfef_16 : decode cJ1_indexOf_4cfef 16 = .ok (.aload_n 0, 1) := by decide +kernel
theorem dJ1_indexOf_4cfef_17 : decode cJ1_indexOf_4cfef 17 = .ok (.arraylength, 1) := by decide +kernel
theorem dJ1_indexOf_4cfef_18 : decode cJ1_indexOf_4cfef 18 = .ok (.invokestatic 38, 3) := by decide +kernel
theorem dJ1_indexOf_4cfef_21 : decode cJ1_indexOf_4cfef 21 = .ok (.istore_n 3, 1) := by decide +kernel
theorem dJ1_indexOf_4cfef_22 : decode cJ1_indexOf_4cfef 22 = .ok (.iload_n 2, 1) := by decide +kernel
theorem dJ1_indexOf_4cfef_23 : decode cJ1_indexOf_4cfef 23 = .ok (.iload_n 3, 1) := by decide +kernel
theorem dJ1_indexOf_4cfef_24 : decode cJ1_indexOf_4cfef 24 = .ok (.if_icmp .lt 5, 3) := by decide +kernel
theorem dJ1_indexOf_4cfef_27 : decode cJ1_indexOf_4cfef 27 = .ok (.iconst (-1), 1) := by decide +kernel
theorem dJ1_indexOf_4cfef_28 : decode cJ1_indexOf_4cfef 28 = .ok (.ireturn, 1) := by decide +kernel
theorem dJ1_indexOf_4cfef_29 : decode cJ1_indexOf_4cfef 29 = .ok (.aload_n 0, 1) := by decide +kernel
theorem dJ1_indexOf_4cfef_30 : decode cJ1_indexOf_4cfef 30 = .ok (.iload_n 1, 1) := by decide +kernel
theorem dJ1_indexOf_4cfef_31 : decode cJ1_indexOf_4cfef 31 = .ok (.iload_n 2, 1) := by decide +kernel
theorem dJ1_indexOf_4cfef_32 : decode cJ1_indexOf_4cfef 32 = .ok (.iload_n 3, 1) := by decide +kernel
theorem dJ1_indexOf_4cfef_33 : decode cJ1_indexOf_4cfef 33 = .ok (.invokestatic 95, 3) := by decide +kernel
theorem dJ1_indexOf_4cfef_36 : decode cJ1_indexOf_4cfef 36 = .ok (.ireturn, 1) := by decide +kernel
theorem dJ1_indexOfChar_4cfef_0 : decode cJ1_indexOfChar_4cfef 0 = .ok (.iload_n 1, 1) := by decide +kernel
theorem dJ1_indexOfChar_4cfef_1 : decode cJ1_indexOfChar_4cfef 1 = .ok (.i2b, 1) := by decide +kernel
theorem dJ1_indexOfChar_4cfef_2 : decode cJ1_indexOfChar_4cfef 2 = .ok (.istore 4, 2) := by decide +kernel
theorem dJ1_indexOfChar_4cfef_4 : decode cJ1_indexOfChar_4cfef 4 = .ok (.iload_n 2, 1) := by decide +kernel
theorem dJ1_indexOfChar_4cfef_5 : decode cJ1_indexOfChar_4cfef 5 = .ok (.istore 5, 2) := by decide +kernel
theorem dJ1_indexOfChar_4cfef_7 : decode cJ1_indexOfChar_4cfef 7 = .ok (.iload 5, 2) := by decide +kernel
theorem dJ1_indexOfChar_4cfef_9 : decode cJ1_indexOfChar_4cfef 9 = .ok (.iload_n 3, 1) := by decide +kernel
theorem dJ1_indexOfChar_4cfef_10 : decode cJ1_indexOfChar_4cfef 10 = .ok (.if_icmp .ge 21, 3) := by decide +kernel
theorem dJ1_indexOfChar_4cfef_13 : decode cJ1_indexOfChar_4cfef 13 = .ok (.aload_n 0, 1) := by decide +kernel
theorem dJ1_indexOfChar_4cfef_14 : decode cJ1_indexOfChar_4cfef 14 = .ok (.iload 5, 2) := by decide +kernel
theorem dJ1_indexOfChar_4cfef_16 : decode cJ1_indexOfChar_4cfef 16 = .ok (.baload, 1) := by decide +kernel
theorem dJ1_indexOfChar_4cfef_17 : decode cJ1_indexOfChar_4cfef 17 = .ok (.iload 4, 2) := by decide +kernel
theorem dJ1_indexOfChar_4cfef_19 : decode cJ1_indexOfChar_4cfef 19 = .ok (.if_icmp .ne 6, 3) := by decide +kernel
theorem dJ1_indexOfChar_4cfef_22 : decode cJ1_indexOfChar_4cfef 22 = .ok (.iload 5, 2) := by decide +kernel
theorem dJ1_indexOfChar_4cfef_24 : decode cJ1_indexOfChar_4cfef 24 = .ok (.ireturn, 1) := by decide +kernel
theorem dJ1_indexOfChar_4cfef_25 : decode cJ1_indexOfChar_4cfef 25 = .ok (.iinc 5 1, 3) := by decide +kernel
theorem dJ1_indexOfChar_4cfef_28 : decode cJ1_indexOfChar_4cfef 28 = .ok (.goto (-21), 3) := by decide +kernel
theorem dJ1_indexOfChar_4cfef_31 : decode cJ1_indexOfChar_4cfef 31 = .ok (.iconst (-1), 1) := by decide +kernel
theorem dJ1_indexOfChar_4cfef_32 : decode cJ1_indexOfChar_4cfef 32 = .ok (.ireturn, 1) := by decide +kernel
theorem mtJ0_coder_7d493 : MV yJ0_coder_7d493 cJ0_coder_7d493 1 (some .byte) 0 := ⟨⟨gtbl_of 600 (by decide +kernel) rfl, gtbl_of 109 (by decide +kernel) rfl, ⟨by decide +kernel, by decide +kernel, by decide +kernel⟩, by decide⟩, gtbl_of 598 (by decide +kernel) rfl, gtbl_of 599 (by decide +kernel) rfl⟩
theorem mtJ0_indexOf_0f7a4 : MV yJ0_indexOf_0f7a4 cJ0_indexOf_0f7a4 2 (some .int) 1 := ⟨⟨gtbl_of 582 (by decide +kernel) rfl, gtbl_of 109 (by decide +kernel) rfl, ⟨by decide +kernel, by decide +kernel, by decide +kernel⟩, by decide⟩, gtbl_of 580 (by decide +kernel) rfl, gtbl_of 581 (by decide +kernel) rfl⟩
theorem mtJ0_indexOf_7cf53 : MV yJ0_indexOf_7cf53 cJ0_indexOf_7cf53 3 (some .int) 2 := ⟨⟨gtbl_of 586 (by decide +kernel) rfl, gtbl_of 109 (by decide +kernel) rfl, ⟨by decide +kernel, by decide +kernel, by decide +kernel⟩, by decide⟩, gtbl_of 584 (by decide +kernel) rfl, gtbl_of 585 (by decide +kernel) rfl⟩
theorem mtJ0_isLatin1_aae02 : MV yJ0_isLatin1_aae02 cJ0_isLatin1_aae02 1 (some .boolean) 0 := ⟨⟨gtbl_of 590 (by decide +kernel) rfl, gtbl_of 109 (by decide +kernel) rfl, ⟨by decide +kernel, by decide +kernel, by decide +kernel⟩, by decide⟩, gtbl_of 588 (by decide +kernel) rfl, gtbl_of 589 (by decide +kernel) rfl⟩
theorem mtJ0_length_8abf5 : MV yJ0_length_8abf5 cJ0_length_8abf5 1 (some .int) 0 := ⟨⟨gtbl_of 596 (by decide +kernel) rfl, gtbl_of 109 (by decide +kernel) rfl, ⟨by decide +kernel, by decide +kernel, by decide +kernel⟩, by decide⟩, gtbl_of 594 (by decide +kernel) rfl, gtbl_of 595 (by decide +kernel) rfl⟩
theorem mtJ1_canEncode_9a6ad : MS yJ1_canEncode_9a6ad cJ1_canEncode_9a6ad 1 (some .boolean) 1 := ⟨⟨gtbl_of 606 (by decide +kernel) rfl, gtbl_of 110 (by decide +kernel) rfl, ⟨by decide +kernel, by decide +kernel, by decide +kernel⟩, by decide⟩, gtbl_of 605 (by decide +kernel) rfl⟩
theorem mtJ1_indexOfChar_4cfef : MS yJ1_indexOfChar_4cfef cJ1_indexOfChar_4cfef 6 (some .int) 4 := ⟨⟨gtbl_of 615 (by decide +kernel) rfl, gtbl_of 110 (by decide +kernel) rfl, ⟨by decide +kernel, by decide +kernel, by decide +kernel⟩, by decide⟩, gtbl_of 614 (by decide +kernel) rfl⟩
theorem mtJ1_indexOf_4cfef : MS yJ1_indexOf_4cfef cJ1_indexOf_4cfef 4 (some .int) 4 := ⟨⟨gtbl_of 603 (by decide +kernel) rfl, gtbl_of 110 (by decide +kernel) rfl, ⟨by decide +kernel, by decide +kernel, by decide +kernel⟩, by decide⟩, gtbl_of 602 (by decide +kernel) rfl⟩
section StrRows
variable {β : Type} {own : String} {cc : ByteArray} {nL : Nat} {ret : Option FieldType} {n : Nat} {out : β → Option (Option Value × AH)} {t : β} {pc : Nat} {L : List (Nat × Value)} {st : List Value} {h : AH}
theorem sim_same {q : Prop} [Decidable q] (k : Sim own cc nL ret n out (if q then t else t) pc L st h) : Sim own cc nL ret n out t pc L st h := by rwa [ite_self] at k
/-- the static COMPACT_STRINGS is 1 -/
theorem sim_compact {idx : Nat} (hlk : Cond.fieldLink own idx "java/lang/String" "COMPACT_STRINGS" "Z" ∈ gtbl) (hd : decode cc pc = .ok (.getstatic idx, 3)) (k : Sim own cc nL ret n out t (pc + 3) L (.int 1 :: st) h) : Sim own cc nL ret n out t pc L st h := by
  intro p l e s m args below meth c D cA adr X a ha H locs ls hP hS hl
  exact va_gets X.1.1 X.1.2.1 X.2.2.2.1.2.2.2.2 hS X.1.2.2.2.1 (X.1.2.2.2.2 _ hlk) (fun _ q => q) hd (k p l e s m args below meth c D cA adr X a ha H locs ls hP hS hl)
theorem sim_scoder {idx : Nat} (i : Nat) (hi : i < 7) (hlk : Cond.fieldLink own idx "java/lang/String" "coder" "B" ∈ gtbl) (hd : decode cc pc = .ok (.getfield idx, 3)) (k : Sim own cc nL ret n out t (pc + 3) L (.int 0 :: st) h) : Sim own cc nL ret n out t pc L (.ref (200 + i) :: st) h := by
  intro p l e s m args below meth c D cA adr X a ha H locs ls hP hS hl
  exact vk_getf X.1.1 X.1.2.1 (X.2.2.2.1.2.2.1.1 i hi).2.1 hS X.1.2.2.2.1 (X.1.2.2.2.2 _ hlk) (fun _ q => q) hd (k p l e s m args below meth c D cA adr X a ha H locs ls hP hS hl)
theorem sim_svalue {idx : Nat} (i : Nat) (hi : i < 7) (hlk : Cond.fieldLink own idx "java/lang/String" "value" "[B" ∈ gtbl) (hd : decode cc pc = .ok (.getfield idx, 3)) (k : Sim own cc nL ret n out t (pc + 3) L (.ref (220 + i) :: st) h) : Sim own cc nL ret n out t pc L (.ref (200 + i) :: st) h := by
  intro p l e s m args below meth c D cA adr X a ha H locs ls hP hS hl
  exact vk_getf X.1.1 X.1.2.1 (X.2.2.2.1.2.2.1.1 i hi).2.2.1 hS X.1.2.2.2.1 (X.1.2.2.2.2 _ hlk) (fun _ q => q) hd (k p l e s m args below meth c D cA adr X a ha H locs ls hP hS hl)
theorem sim_salen (i : Nat) (hi : i < 7) (hd : decode cc pc = .ok (.arraylength, 1)) (k : Sim own cc nL ret n out t (pc + 1) L (.int (Int32.ofNat (lenS.getD i 0)) :: st) h) : Sim own cc nL ret n out t pc L (.ref (220 + i) :: st) h := by
  intro p l e s m args below meth c D cA adr X a ha H locs ls hP hS hl
  exact va_tlen X.1.1 X.1.2.1 (X.2.2.2.1.2.2.1.1 i hi).2.2.2 hS rfl hd (k p l e s m args below meth c D cA adr X a ha H locs ls hP hS hl)
theorem sim_sbald (i : Nat) (hi : i < 7) {j v : Int32} (hin : vp_in j (lenS.getD i 0)) (hv : (bytS.getD i []).getD j.toNatClampNeg 0 = v) (hd : decode cc pc = .ok (.baload, 1)) (k : Sim own cc nL ret n out t (pc + 1) L (.int v :: st) h) : Sim own cc nL ret n out t pc L (.int j :: .ref (220 + i) :: st) h := by
  intro p l e s m args below meth c D cA adr X a ha H locs ls hP hS hl
  exact va_tb X.1.1 X.1.2.1 (X.2.2.2.1.2.2.1.1 i hi).2.2.2 hS hin (congrArg Value.int hv) hd (k p l e s m args below meth c D cA adr X a ha H locs ls hP hS hl)
/-- a call of a method of a String constant -/
theorem sim_cVs {y : MethodName} {bytes : ByteArray} {maxL n' idx k9 : Nat} {ret' : Option FieldType} {As stk : List Value} {r : Option Value} {h1 : AH} (i : Nat) (hi : i < 7) (hy : y.cls = "java/lang/String") (hok : Ok y bytes maxL ret' n' (.ref (200 + i) :: As) h (r, h1)) (hr : ∀ adr, r.map (cv adr) = r) (hl : ML own idx y) (hm : MV y bytes maxL ret' k9) (hs : As.reverse ++ .ref (200 + i) :: st = stk) (hn : n' + 1 ≤ n) (hk : As.length = k9) (hst : (st.map fun v => v.category).sum ≤ 8) (hd : decode cc pc = .ok (.invokevirtual idx, 3))
    (k : Sim own cc nL ret n out t (pc + 3) L (r.toList ++ st) h1) : Sim own cc nL ret n out t pc L stk h := by
  intro p l e s m args below meth c D cA adr X a ha H locs ls hP hS hll
  subst hs
  obtain ⟨⟨hcode, hini, hyd, hmx⟩, hinst, hsel⟩ := hm
  have hPre : PreV s H y.cls (adr (200 + i)) (PcA D cA adr (.ref (200 + i) :: As) h) (As.map (cv adr)) := ⟨pcA_blind, by rw [hy]; exact vk_recv (adK := fun i => adr (200 + i)) (i := i) X.2.2.2.1.2.2.1 hi hS, fun U hU hW => ⟨rfl, X.2.2.2.1.later hS hU hW, by rw [hU]; exact hP⟩⟩
  have hR : (rmH n').frames + 1 ≤ (rmH n).frames ∧ 8 + (maxL + 11) + (rmH n').locals ≤ (rmH n).locals := ⟨hn, by show 8 + (maxL + 11) + 40 * n' ≤ 40 * n; omega⟩
  have hstk : (List.map (cv adr) (As.reverse ++ .ref (200 + i) :: st)) = (As.map (cv adr)).reverse ++ .ref (adr (200 + i)) :: st.map (cv adr) := by
    rw [List.map_append, List.map_reverse]
    rfl
  have key : va_Run p l e (rmH n) s m args below meth c H locs 0 0 0 0 (F0 m pc ls (List.map (cv adr) (As.reverse ++ .ref (200 + i) :: st))) (st.map (cv adr)) (QcA D cA adr (r, h1) (Value.ref (adr (200 + i)) :: As.map (cv adr)).toArray) (Aw adr) := by
    rcases hl with hl | ⟨host, hl⟩
    · exact va_runV X.1 (hok l D cA adr X.2.2.2.2) ⟨callB_of k9 X.1.2.2.2.2 (gtbl_code hcode) rfl rfl rfl (X.1.2.2.2.2 _ hini) (X.1.2.2.2.2 _ hl) hyd hR, X.1.2.2.2.2 _ hinst, X.1.2.2.2.2 _ hsel⟩ hPre rfl (by rw [List.length_map]; exact hk) hll.1 hstk (lv_room (by rw [cat_cv]; exact hst)) hd ⟨Nat.le_refl _, Nat.le_refl _⟩
    · exact va_runVN X.1 (hok l D cA adr X.2.2.2.2) ⟨va_cnB k9 X.1.2.2.2.2 (gtbl_code hcode) rfl rfl rfl (X.2.2.2.1.2.1 _ hl) (X.1.2.2.2.2 _ hini) hyd hR, X.1.2.2.2.2 _ hinst, X.1.2.2.2.2 _ hsel⟩ hPre rfl (by rw [List.length_map]; exact hk) hll.1 hstk (lv_room (by rw [cat_cv]; exact hst)) hd ⟨Nat.le_refl _, Nat.le_refl _⟩
  refine run_sim key hS (fun H1 locs1 hP1 hS1 => ?_)
  have := k p l e s m args below meth c D cA adr X a ha H1 locs1 ls hP1 hS1 hll
  rwa [toL_cv adr (hr adr)] at this
end StrRows
theorem fs_comp : Cond.fieldLink RJ0 38 "java/lang/String" "COMPACT_STRINGS" "Z" ∈ gtbl := gtbl_of 591 (by decide +kernel) rfl
theorem fs_coder : Cond.fieldLink RJ0 15 "java/lang/String" "coder" "B" ∈ gtbl := gtbl_of 1768 (by decide +kernel) rfl
theorem fs_value : Cond.fieldLink RJ0 9 "java/lang/String" "value" "[B" ∈ gtbl := gtbl_of 1769 (by decide +kernel) rfl
theorem fs_max : Cond.methodLink RJ1 92 yJ9_max_7cf53 ∈ gtbl := gtbl_of 607 (by decide +kernel) rfl
theorem fs_min : Cond.methodLink RJ1 38 yJ9_min_7cf53 ∈ gtbl := gtbl_of 610 (by decide +kernel) rfl
/-- the place of a number in what is left of a text, from place k on -/
def ixF (c : Int32) : List Int32 → Nat → Int32
  | [], _ => -1
  | b :: l, k => if b = c then Int32.ofNat k else ixF c l (k + 1)
theorem ixF_none {c : Int32} : ∀ (l : List Int32) (k : Nat), (∀ b ∈ l, ¬ b = c) → ixF c l k = -1
  | [], _, _ => rfl
  | b :: l, k, h => by
    unfold ixF
    rw [if_neg (h b (List.mem_cons_self ..)), ixF_none l (k + 1) (fun q hq => h q (List.mem_cons_of_mem _ hq))]
theorem ixF_cong {c d : Int32} : ∀ (l : List Int32) (k : Nat), (∀ b ∈ l, b = c ↔ b = d) → ixF c l k = ixF d l k
  | [], _, _ => rfl
  | b :: l, k, h => by
    unfold ixF
    rw [ixF_cong l (k + 1) (fun q hq => h q (List.mem_cons_of_mem _ hq))]
    have := h b (List.mem_cons_self ..)
    by_cases e : b = c
    · rw [if_pos e, if_pos (this.mp e)]
    · rw [if_neg e, if_neg (fun q => e (this.mpr q))]
theorem ixF_find {c : Int32} : ∀ (l : List Int32) (k : Nat), ixF c l k = (l.findIdx? (fun b => b == c)).elim (-1) (fun j => Int32.ofNat (k + j))
  | [], _ => rfl
  | b :: l, k => by
    unfold ixF
    rw [List.findIdx?_cons]
    by_cases e : b = c
    · have hb : (b == c) = true := by rw [e]; exact beq_self_eq_true c
      rw [if_pos e, if_pos hb]
      rfl
    · rw [if_neg e, if_neg (show ¬ (b == c) = true from fun q => e (eq_of_beq q)), ixF_find l (k + 1)]
      cases l.findIdx? (fun b => b == c) with
      | none => rfl
      | some j =>
        show Int32.ofNat (k + 1 + j) = Int32.ofNat (k + (j + 1))
        rw [Nat.add_assoc, Nat.add_comm 1 j]
theorem bs_len : ∀ i, i < 7 → (bytS.getD i []).length = lenS.getD i 0 := by decide +kernel
theorem bs_small : ∀ i, i < 7 → lenS.getD i 0 ≤ 2000 := by decide +kernel
theorem bs_pos : ∀ i, i < 7 → (0 : Int32) < Int32.ofNat (lenS.getD i 0) := by decide +kernel
theorem bs_shr : ∀ i, i < 7 → jshr (Int32.ofNat (lenS.getD i 0)) 0 = Int32.ofNat (lenS.getD i 0) := by decide +kernel
theorem bs_min : ∀ i, i < 7 → jmin (Int32.ofNat (lenS.getD i 0)) (Int32.ofNat (lenS.getD i 0)) = Int32.ofNat (lenS.getD i 0) := by decide +kernel
theorem bs_byte : ∀ i, i < 7 → ∀ b ∈ bytS.getD i [], ¬ b < 0 ∧ b < 128 := by decide +kernel
theorem bs_i2b : ∀ m, m < 256 → ∀ i, i < 7 → ∀ b ∈ bytS.getD i [], b = ji2b (Int32.ofNat m) ↔ b = Int32.ofNat m := by decide +kernel
theorem bs_nat {c : Int32} (h1 : ¬ c < 0) (h2 : ¬ (255 : Int32) < c) : ∃ m, m < 256 ∧ c = Int32.ofNat m := by
  have a1 : ¬ c.toInt < 0 := fun q => h1 (Int32.lt_iff_toInt_lt.mpr q)
  have a2 : ¬ (255 : Int) < c.toInt := fun q => h2 (Int32.lt_iff_toInt_lt.mpr q)
  refine ⟨c.toInt.toNat, by omega, ?_⟩
  apply Int32.toInt_inj.mp
  rw [Int32.toInt_ofNat_of_lt (by omega)]
  omega
def fJ1_canEncode (c : Int32) : Int32 := if c < 0 then 0 else if 255 < c then 0 else 1
theorem sJ1_canEncode (c : Int32) (h : AH) : Sim RJ1 cJ1_canEncode_9a6ad 1 (some .boolean) 1 (tI h) (fJ1_canEncode c) 0 [(0, .int c)] [] h := by
  unfold fJ1_canEncode
  refine sim_iload_n 0 rfl dJ1_canEncode_9a6ad_0 ?_
  refine sim_if_lt (tgt := 15) dJ1_canEncode_9a6ad_1 (by decide) (fun c1 => ?_) (fun c1 => ?_)
  · refine sim_iconst (v := 0) (by decide) dJ1_canEncode_9a6ad_15 ?_
    exact sim_zret rfl rfl rfl dJ1_canEncode_9a6ad_16
  · refine sim_iload_n 0 rfl dJ1_canEncode_9a6ad_4 ?_
    refine sim_sipush (v := 255) (by decide) dJ1_canEncode_9a6ad_5 ?_
    refine sim_icmp_gt (tgt := 15) dJ1_canEncode_9a6ad_8 (by decide) (fun c2 => ?_) (fun c2 => ?_)
    · refine sim_iconst (v := 0) (by decide) dJ1_canEncode_9a6ad_15 ?_
      exact sim_zret rfl rfl rfl dJ1_canEncode_9a6ad_16
    · refine sim_iconst (v := 1) (by decide) dJ1_canEncode_9a6ad_11 ?_
      refine sim_goto (tgt := 16) dJ1_canEncode_9a6ad_12 (by decide) ?_
      exact sim_zret rfl rfl rfl dJ1_canEncode_9a6ad_16
theorem okJ1_canEncode (c : Int32) (h : AH) : Ok yJ1_canEncode_9a6ad cJ1_canEncode_9a6ad 1 (some .boolean) 1 [.int c] h (some (.int (fJ1_canEncode c)), h) := ok_of (sJ1_canEncode c h) rfl (by decide +kernel) (Nat.le_of_ble_eq_true rfl)
theorem sJ1_ixLoop (i : Nat) (hi : i < 7) (b c : Int32) (h : AH) : ∀ (l : List Int32) (k : Nat), (bytS.getD i []).drop k = l → k ≤ lenS.getD i 0 →
    Sim RJ1 cJ1_indexOfChar_4cfef 6 (some .int) 1 (tI h) (ixF b l k) 7 [(5, .int (Int32.ofNat k)), (4, .int b), (0, .ref (220 + i)), (1, .int c), (2, .int 0), (3, .int (Int32.ofNat (lenS.getD i 0)))] [] h := by
  intro l
  have hs := bs_small i hi
  have hlen := bs_len i hi
  generalize hN : lenS.getD i 0 = N at hs hlen ⊢
  have tn : ∀ q, q ≤ 2000 → (Int32.ofNat q).toInt = (q : Int) := fun q hq => Int32.toInt_ofNat_of_lt (by omega)
  induction l with
  | nil =>
    intro k hk hkN
    have hd := congrArg List.length hk
    rw [List.length_drop, hlen] at hd
    have hd : N - k = 0 := hd
    have hkN' : k = N := by omega
    subst hkN'
    refine sim_iload 0 rfl dJ1_indexOfChar_4cfef_7 ?_
    refine sim_iload_n 5 rfl dJ1_indexOfChar_4cfef_9 ?_
    refine sim_same (sim_icmp_ge (tgt := 31) dJ1_indexOfChar_4cfef_10 (by decide) (fun c1 => ?_) (fun c1 => ?_))
    · refine sim_iconst (v := -1) (by decide) dJ1_indexOfChar_4cfef_31 ?_
      exact sim_iret rfl rfl dJ1_indexOfChar_4cfef_32
    · have := Int32.lt_iff_toInt_lt.mp c1
      omega
  | cons x l ih =>
    intro k hk hkN
    have hd := congrArg List.length hk
    rw [List.length_drop, hlen] at hd
    have hd : N - k = l.length + 1 := hd
    have hlt : k < N := by omega
    have hx : (bytS.getD i [])[k]? = some x := by
      have := congrArg (fun z => z[0]?) hk
      have : (List.drop k (bytS.getD i []))[0]? = some x := this
      rw [List.getElem?_drop] at this
      exact this
    have hcl : (Int32.ofNat k).toNatClampNeg = k := by
      show (Int32.ofNat k).toInt.toNat = k
      rw [tn k (by omega)]
      omega
    refine sim_iload 0 rfl dJ1_indexOfChar_4cfef_7 ?_
    refine sim_iload_n 5 rfl dJ1_indexOfChar_4cfef_9 ?_
    refine sim_same (sim_icmp_ge (tgt := 31) dJ1_indexOfChar_4cfef_10 (by decide) (fun c1 => ?_) (fun c1 => ?_))
    · exact absurd (Int32.lt_iff_toInt_lt.mpr (by rw [tn k (by omega), tn N hs]; omega)) c1
    · refine sim_aload_n 2 rfl dJ1_indexOfChar_4cfef_13 ?_
      refine sim_iload 0 rfl dJ1_indexOfChar_4cfef_14 ?_
      refine sim_sbald i hi (v := x) (by rw [hN]; exact vp_lit hs (fun q => by have := Int32.lt_iff_toInt_lt.mp q; rw [tn k (by omega)] at this; have : (k : Int) < 0 := this; omega) c1) (by rw [hcl, List.getD_eq_getElem?_getD, hx]; rfl) dJ1_indexOfChar_4cfef_16 ?_
      refine sim_iload 1 rfl dJ1_indexOfChar_4cfef_17 ?_
      refine sim_icmp_ne (tgt := 25) dJ1_indexOfChar_4cfef_19 (by decide) (fun c2 => ?_) (fun c2 => ?_)
      · refine sim_iinc (v := Int32.ofNat (k + 1)) 0 rfl ?_ rfl (by decide) dJ1_indexOfChar_4cfef_25 ?_
        · rw [Int32.ofNat_add]
          rfl
        · refine sim_goto (tgt := 7) dJ1_indexOfChar_4cfef_28 (by decide) ?_
          exact ih (k + 1) ((List.tail_drop).symm.trans (congrArg List.tail hk)) (by omega)
      · refine sim_iload 0 rfl dJ1_indexOfChar_4cfef_22 ?_
        exact sim_iret rfl rfl dJ1_indexOfChar_4cfef_24
theorem sJ1_indexOfChar (i : Nat) (hi : i < 7) (c : Int32) (h : AH) : Sim RJ1 cJ1_indexOfChar_4cfef 6 (some .int) 1 (tI h) (ixF (ji2b c) (bytS.getD i []) 0) 0 [(0, .ref (220 + i)), (1, .int c), (2, .int 0), (3, .int (Int32.ofNat (lenS.getD i 0)))] [] h := by
  refine sim_iload_n 1 rfl dJ1_indexOfChar_4cfef_0 ?_
  refine sim_i2b dJ1_indexOfChar_4cfef_1 ?_
  refine sim_istore rfl (by decide) dJ1_indexOfChar_4cfef_2 ?_
  refine sim_iload_n 3 rfl dJ1_indexOfChar_4cfef_4 ?_
  refine sim_istore rfl (by decide) dJ1_indexOfChar_4cfef_5 ?_
  exact sJ1_ixLoop i hi (ji2b c) c h _ 0 rfl (Nat.zero_le _)
theorem okJ1_indexOfChar (i : Nat) (hi : i < 7) (c : Int32) (h : AH) : Ok yJ1_indexOfChar_4cfef cJ1_indexOfChar_4cfef 6 (some .int) 1 [.ref (220 + i), .int c, .int 0, .int (Int32.ofNat (lenS.getD i 0))] h (some (.int (ixF (ji2b c) (bytS.getD i []) 0)), h) := ok_of (sJ1_indexOfChar i hi c h) rfl (by decide +kernel) (Nat.le_of_ble_eq_true rfl)
def fJ1_indexOf (i : Nat) (c : Int32) : Int32 := if fJ1_canEncode c = 0 then -1 else ixF (ji2b c) (bytS.getD i []) 0
theorem sJ1_indexOf (i : Nat) (hi : i < 7) (c : Int32) (h : AH) : Sim RJ1 cJ1_indexOf_4cfef 4 (some .int) 2 (tI h) (fJ1_indexOf i c) 0 [(0, .ref (220 + i)), (1, .int c), (2, .int 0), (3, .int (Int32.ofNat (lenS.getD i 0)))] [] h := by
  unfold fJ1_indexOf
  refine sim_iload_n 1 rfl dJ1_indexOf_4cfef_0 ?_
  refine sim_cS (As := [.int c]) (st := []) (r := some (.int (fJ1_canEncode c))) (h1 := h) (okJ1_canEncode c h) (fun _ => rfl) mlJ1_88 mtJ1_canEncode_9a6ad rfl (Nat.le_of_ble_eq_true rfl) rfl (Nat.le_of_ble_eq_true rfl) dJ1_indexOf_4cfef_1 ?_
  refine sim_if_ne (tgt := 9) dJ1_indexOf_4cfef_4 (by decide) (fun c1 => ?_) (fun c1 => ?_)
  · refine sim_iload_n 2 rfl dJ1_indexOf_4cfef_9 ?_
    refine sim_iconst (v := 0) (by decide) dJ1_indexOf_4cfef_10 ?_
    refine sim_mmax fs_max (Nat.le_of_ble_eq_true rfl) (Nat.le_of_ble_eq_true rfl) dJ1_indexOf_4cfef_11 ?_
    rw [show jmax (0 : Int32) 0 = 0 from by decide]
    refine sim_istore_n rfl (by decide) dJ1_indexOf_4cfef_14 ?_
    refine sim_iload_n 3 rfl dJ1_indexOf_4cfef_15 ?_
    refine sim_aload_n 1 rfl dJ1_indexOf_4cfef_16 ?_
    refine sim_salen i hi dJ1_indexOf_4cfef_17 ?_
    refine sim_mmin fs_min (Nat.le_of_ble_eq_true rfl) (Nat.le_of_ble_eq_true rfl) dJ1_indexOf_4cfef_18 ?_
    rw [bs_min i hi]
    refine sim_istore_n rfl (by decide) dJ1_indexOf_4cfef_21 ?_
    refine sim_iload_n 1 rfl dJ1_indexOf_4cfef_22 ?_
    refine sim_iload_n 0 rfl dJ1_indexOf_4cfef_23 ?_
    refine sim_same (sim_icmp_lt (tgt := 29) dJ1_indexOf_4cfef_24 (by decide) (fun c2 => ?_) (fun c2 => absurd (bs_pos i hi) c2))
    refine sim_aload_n 2 rfl dJ1_indexOf_4cfef_29 ?_
    refine sim_iload_n 3 rfl dJ1_indexOf_4cfef_30 ?_
    refine sim_iload_n 1 rfl dJ1_indexOf_4cfef_31 ?_
    refine sim_iload_n 0 rfl dJ1_indexOf_4cfef_32 ?_
    refine sim_cS (As := [.ref (220 + i), .int c, .int 0, .int (Int32.ofNat (lenS.getD i 0))]) (st := []) (r := some (.int (ixF (ji2b c) (bytS.getD i []) 0))) (h1 := h) (okJ1_indexOfChar i hi c h) (fun _ => rfl) mlJ1_95 mtJ1_indexOfChar_4cfef rfl (Nat.le_of_ble_eq_true rfl) rfl (Nat.le_of_ble_eq_true rfl) dJ1_indexOf_4cfef_33 ?_
    exact sim_iret rfl rfl dJ1_indexOf_4cfef_36
  · refine sim_iconst (v := -1) (by decide) dJ1_indexOf_4cfef_7 ?_
    exact sim_iret rfl rfl dJ1_indexOf_4cfef_8
theorem okJ1_indexOf (i : Nat) (hi : i < 7) (c : Int32) (h : AH) : Ok yJ1_indexOf_4cfef cJ1_indexOf_4cfef 4 (some .int) 2 [.ref (220 + i), .int c, .int 0, .int (Int32.ofNat (lenS.getD i 0))] h (some (.int (fJ1_indexOf i c)), h) := ok_of (sJ1_indexOf i hi c h) rfl (by decide +kernel) (Nat.le_of_ble_eq_true rfl)
theorem sJ0_isLatin1 (i : Nat) (hi : i < 7) (h : AH) : Sim RJ0 cJ0_isLatin1_aae02 1 (some .boolean) 1 (tI h) 1 0 [(0, .ref (200 + i))] [] h := by
  refine sim_compact fs_comp dJ0_isLatin1_aae02_0 ?_
  refine sim_same (sim_if_eq (tgt := 17) dJ0_isLatin1_aae02_3 (by decide) (fun c1 => absurd c1 (by decide)) (fun _ => ?_))
  refine sim_aload_n 0 rfl dJ0_isLatin1_aae02_6 ?_
  refine sim_scoder i hi fs_coder dJ0_isLatin1_aae02_7 ?_
  refine sim_same (sim_if_ne (tgt := 17) dJ0_isLatin1_aae02_10 (by decide) (fun c1 => absurd rfl c1) (fun _ => ?_))
  refine sim_iconst (v := 1) (by decide) dJ0_isLatin1_aae02_13 ?_
  refine sim_goto (tgt := 18) dJ0_isLatin1_aae02_14 (by decide) ?_
  exact sim_zret rfl rfl rfl dJ0_isLatin1_aae02_18
theorem okJ0_isLatin1 (i : Nat) (hi : i < 7) (h : AH) : Ok yJ0_isLatin1_aae02 cJ0_isLatin1_aae02 1 (some .boolean) 1 [.ref (200 + i)] h (some (.int 1), h) := ok_of (sJ0_isLatin1 i hi h) rfl (by decide +kernel) (Nat.le_of_ble_eq_true rfl)
theorem sJ0_coder (i : Nat) (hi : i < 7) (h : AH) : Sim RJ0 cJ0_coder_7d493 1 (some .byte) 1 (tI h) 0 0 [(0, .ref (200 + i))] [] h := by
  refine sim_compact fs_comp dJ0_coder_7d493_0 ?_
  refine sim_same (sim_if_eq (tgt := 13) dJ0_coder_7d493_3 (by decide) (fun c1 => absurd c1 (by decide)) (fun _ => ?_))
  refine sim_aload_n 0 rfl dJ0_coder_7d493_6 ?_
  refine sim_scoder i hi fs_coder dJ0_coder_7d493_7 ?_
  refine sim_goto (tgt := 14) dJ0_coder_7d493_10 (by decide) ?_
  exact sim_zret rfl rfl rfl dJ0_coder_7d493_14
theorem okJ0_coder (i : Nat) (hi : i < 7) (h : AH) : Ok yJ0_coder_7d493 cJ0_coder_7d493 1 (some .byte) 1 [.ref (200 + i)] h (some (.int 0), h) := ok_of (sJ0_coder i hi h) rfl (by decide +kernel) (Nat.le_of_ble_eq_true rfl)
theorem sJ0_length (i : Nat) (hi : i < 7) (h : AH) : Sim RJ0 cJ0_length_8abf5 1 (some .int) 2 (tI h) (Int32.ofNat (lenS.getD i 0)) 0 [(0, .ref (200 + i))] [] h := by
  refine sim_aload_n 0 rfl dJ0_length_8abf5_0 ?_
  refine sim_svalue i hi fs_value dJ0_length_8abf5_1 ?_
  refine sim_salen i hi dJ0_length_8abf5_4 ?_
  refine sim_aload_n 0 rfl dJ0_length_8abf5_5 ?_
  refine sim_cVs i hi rfl (As := []) (st := [.int (Int32.ofNat (lenS.getD i 0))]) (r := some (.int 0)) (h1 := h) (okJ0_coder i hi h) (fun _ => rfl) mlJ0_335 mtJ0_coder_7d493 rfl (Nat.le_of_ble_eq_true rfl) rfl (Nat.le_of_ble_eq_true rfl) dJ0_length_8abf5_6 ?_
  refine sim_ishr dJ0_length_8abf5_9 ?_
  rw [bs_shr i hi]
  exact sim_iret rfl rfl dJ0_length_8abf5_10
theorem okJ0_length (i : Nat) (hi : i < 7) (h : AH) : Ok yJ0_length_8abf5 cJ0_length_8abf5 1 (some .int) 2 [.ref (200 + i)] h (some (.int (Int32.ofNat (lenS.getD i 0))), h) := ok_of (sJ0_length i hi h) rfl (by decide +kernel) (Nat.le_of_ble_eq_true rfl)
theorem sJ0_indexOfII (i : Nat) (hi : i < 7) (c : Int32) (h : AH) : Sim RJ0 cJ0_indexOf_7cf53 3 (some .int) 3 (tI h) (fJ1_indexOf i c) 0 [(0, .ref (200 + i)), (1, .int c), (2, .int 0)] [] h := by
  refine sim_aload_n 0 rfl dJ0_indexOf_7cf53_0 ?_
  refine sim_cVs i hi rfl (As := []) (st := []) (r := some (.int 1)) (h1 := h) (okJ0_isLatin1 i hi h) (fun _ => rfl) mlJ0_492 mtJ0_isLatin1_aae02 rfl (Nat.le_of_ble_eq_true rfl) rfl (Nat.le_of_ble_eq_true rfl) dJ0_indexOf_7cf53_1 ?_
  refine sim_same (sim_if_eq (tgt := 23) dJ0_indexOf_7cf53_4 (by decide) (fun c1 => absurd c1 (by decide)) (fun _ => ?_))
  refine sim_aload_n 0 rfl dJ0_indexOf_7cf53_7 ?_
  refine sim_svalue i hi fs_value dJ0_indexOf_7cf53_8 ?_
  refine sim_iload_n 1 rfl dJ0_indexOf_7cf53_11 ?_
  refine sim_iload_n 2 rfl dJ0_indexOf_7cf53_12 ?_
  refine sim_aload_n 0 rfl dJ0_indexOf_7cf53_13 ?_
  refine sim_cVs i hi rfl (As := []) (st := [.int 0, .int c, .ref (220 + i)]) (r := some (.int (Int32.ofNat (lenS.getD i 0)))) (h1 := h) (okJ0_length i hi h) (fun _ => rfl) mlJ0_505 mtJ0_length_8abf5 rfl (Nat.le_of_ble_eq_true rfl) rfl (Nat.le_of_ble_eq_true rfl) dJ0_indexOf_7cf53_14 ?_
  refine sim_cS (As := [.ref (220 + i), .int c, .int 0, .int (Int32.ofNat (lenS.getD i 0))]) (st := []) (r := some (.int (fJ1_indexOf i c))) (h1 := h) (okJ1_indexOf i hi c h) (fun _ => rfl) mlJ0_637 mtJ1_indexOf_4cfef rfl (Nat.le_of_ble_eq_true rfl) rfl (Nat.le_of_ble_eq_true rfl) dJ0_indexOf_7cf53_17 ?_
  refine sim_goto (tgt := 36) dJ0_indexOf_7cf53_20 (by decide) ?_
  exact sim_iret rfl rfl dJ0_indexOf_7cf53_36
theorem okJ0_indexOfII (i : Nat) (hi : i < 7) (c : Int32) (h : AH) : Ok yJ0_indexOf_7cf53 cJ0_indexOf_7cf53 3 (some .int) 3 [.ref (200 + i), .int c, .int 0] h (some (.int (fJ1_indexOf i c)), h) := ok_of (sJ0_indexOfII i hi c h) rfl (by decide +kernel) (Nat.le_of_ble_eq_true rfl)
theorem sJ0_indexOfI (i : Nat) (hi : i < 7) (c : Int32) (h : AH) : Sim RJ0 cJ0_indexOf_0f7a4 2 (some .int) 4 (tI h) (fJ1_indexOf i c) 0 [(0, .ref (200 + i)), (1, .int c)] [] h := by
  refine sim_aload_n 0 rfl dJ0_indexOf_0f7a4_0 ?_
  refine sim_iload_n 1 rfl dJ0_indexOf_0f7a4_1 ?_
  refine sim_iconst (v := 0) (by decide) dJ0_indexOf_0f7a4_2 ?_
  refine sim_cVs i hi rfl (As := [.int c, .int 0]) (st := []) (r := some (.int (fJ1_indexOf i c))) (h1 := h) (okJ0_indexOfII i hi c h) (fun _ => rfl) mlJ0_633 mtJ0_indexOf_7cf53 rfl (Nat.le_of_ble_eq_true rfl) rfl (Nat.le_of_ble_eq_true rfl) dJ0_indexOf_0f7a4_3 ?_
  exact sim_iret rfl rfl dJ0_indexOf_0f7a4_6
theorem okJ0_indexOfI (i : Nat) (hi : i < 7) (c : Int32) (h : AH) : Ok yJ0_indexOf_0f7a4 cJ0_indexOf_0f7a4 2 (some .int) 4 [.ref (200 + i), .int c] h (some (.int (fJ1_indexOf i c)), h) := ok_of (sJ0_indexOfI i hi c h) rfl (by decide +kernel) (Nat.le_of_ble_eq_true rfl)
theorem fJ1_indexOf_eq (i : Nat) (hi : i < 7) (c : Int32) : fJ1_indexOf i c = ixF c (bytS.getD i []) 0 := by
  unfold fJ1_indexOf fJ1_canEncode
  by_cases h1 : c < 0
  · rw [if_pos h1, if_pos rfl]
    refine (ixF_none _ _ (fun b hb e => ?_)).symm
    subst e
    exact (bs_byte i hi b hb).1 h1
  · rw [if_neg h1]
    by_cases h2 : (255 : Int32) < c
    · rw [if_pos h2, if_pos rfl]
      refine (ixF_none _ _ (fun b hb e => ?_)).symm
      subst e
      have a1 := Int32.lt_iff_toInt_lt.mp (bs_byte i hi b hb).2
      have a2 := Int32.lt_iff_toInt_lt.mp h2
      have a1 : b.toInt < 128 := a1
      have a2 : (255 : Int) < b.toInt := a2
      omega
    · rw [if_neg h2, if_neg (by decide)]
      obtain ⟨m, hm, rfl⟩ := bs_nat h1 h2
      exact ixF_cong _ _ (fun b hb => bs_i2b m hm i hi b hb)
/-- where a sign stands among those of a String constant; -1: not there -/
def fX10_among (i : Nat) (h : AH) : Int32 := if h.1 1 3 < 0 then -1 else (match (bytS.getD i []).findIdx? (fun b => b == ji2c (h.1 1 3)) with | some k => Int32.ofNat k | none => -1)
theorem fX10_among_eq (i : Nat) (hi : i < 7) (h : AH) : fX10_among i h = if h.1 1 3 < 0 then -1 else fJ1_indexOf i (ji2c (h.1 1 3)) := by
  unfold fX10_among
  rw [fJ1_indexOf_eq i hi, ixF_find]
  cases (bytS.getD i []).findIdx? (fun b => b == ji2c (h.1 1 3)) with
  | none => rfl
  | some j =>
    show (if h.1 1 3 < 0 then -1 else Int32.ofNat j) = (if h.1 1 3 < 0 then -1 else Int32.ofNat (0 + j))
    rw [Nat.zero_add]
theorem sX10_among (i : Nat) (hi : i < 7) (h : AH) : Sim RX10 cX10_among 2 (some .int) 12 (tI h) (fX10_among i h) 0 [(0, .ref 1), (1, .ref (200 + i))] [] h := by
  rw [fX10_among_eq i hi]
  refine sim_aload_n 0 rfl dX10_among_0 ?_
  refine sim_getI flX10_22 rfl rfl dX10_among_1 ?_
  refine sim_if_ge (tgt := 11) dX10_among_4 (by decide) (fun c1 => ?_) (fun c1 => ?_)
  · refine sim_aload_n 1 rfl dX10_among_11 ?_
    refine sim_aload_n 0 rfl dX10_among_12 ?_
    refine sim_getI flX10_22 rfl rfl dX10_among_13 ?_
    refine sim_i2c dX10_among_16 ?_
    refine sim_cVs i hi rfl (As := [.int (ji2c (h.1 1 3))]) (st := []) (r := some (.int (fJ1_indexOf i (ji2c (h.1 1 3))))) (h1 := h) (okJ0_indexOfI i hi (ji2c (h.1 1 3)) h) (fun _ => rfl) mlX10_42 mtJ0_indexOf_0f7a4 rfl (Nat.le_of_ble_eq_true rfl) rfl (Nat.le_of_ble_eq_true rfl) dX10_among_17 ?_
    exact sim_iret rfl rfl dX10_among_20
  · refine sim_iconst (v := -1) (by decide) dX10_among_7 ?_
    refine sim_goto (tgt := 20) dX10_among_8 (by decide) ?_
    exact sim_iret rfl rfl dX10_among_20
theorem okX10_among (i : Nat) (hi : i < 7) (h : AH) : Ok yX10_among cX10_among 2 (some .int) 12 [.ref 1, .ref (200 + i)] h (some (.int (fX10_among i h)), h) := ok_of (sX10_among i hi h) rfl (by decide +kernel) (Nat.le_of_ble_eq_true rfl)
