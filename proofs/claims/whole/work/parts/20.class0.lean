theorem dJ6_bitCount_0f7a4_0 : decode cJ6_bitCount_0f7a4 0 = .ok (.iload_n 0, 1) := by decide +kernel
theorem dJ6_bitCount_0f7a4_1 : decode cJ6_bitCount_0f7a4 1 = .ok (.iload_n 0, 1) := by decide +kernel
theorem dJ6_bitCount_0f7a4_2 : decode cJ6_bitCount_0f7a4 2 = .ok (.iconst 1, 1) := by decide +kernel
theorem dJ6_bitCount_0f7a4_3 : decode cJ6_bitCount_0f7a4 3 = .ok (.iushr, 1) := by decide +kernel
theorem dJ6_bitCount_0f7a4_4 : decode cJ6_bitCount_0f7a4 4 = .ok (.ldc_w 265, 3) := by decide +kernel
theorem dJ6_bitCount_0f7a4_7 : decode cJ6_bitCount_0f7a4 7 = .ok (.iand, 1) := by decide +kernel
theorem dJ6_bitCount_0f7a4_8 : decode cJ6_bitCount_0f7a4 8 = .ok (.isub, 1) := by decide +kernel
theorem dJ6_bitCount_0f7a4_9 : decode cJ6_bitCount_0f7a4 9 = .ok (.istore_n 0, 1) := by decide +kernel
theorem dJ6_bitCount_0f7a4_10 : decode cJ6_bitCount_0f7a4 10 = .ok (.iload_n 0, 1) := by decide +kernel
theorem dJ6_bitCount_0f7a4_11 : decode cJ6_bitCount_0f7a4 11 = .ok (.ldc_w 266, 3) := by decide +kernel
theorem dJ6_bitCount_0f7a4_14 : decode cJ6_bitCount_0f7a4 14 = .ok (.iand, 1) := by decide +kernel
theorem dJ6_bitCount_0f7a4_15 : decode cJ6_bitCount_0f7a4 15 = .ok (.iload_n 0, 1) := by decide +kernel
theorem dJ6_bitCount_0f7a4_16 : decode cJ6_bitCount_0f7a4 16 = .ok (.iconst 2, 1) := by decide +kernel
theorem dJ6_bitCount_0f7a4_17 : decode cJ6_bitCount_0f7a4 17 = .ok (.iushr, 1) := by decide +kernel
theorem dJ6_bitCount_0f7a4_18 : decode cJ6_bitCount_0f7a4 18 = .ok (.ldc_w 266, 3) := by decide +kernel
theorem dJ6_bitCount_0f7a4_21 : decode cJ6_bitCount_0f7a4 21 = .ok (.iand, 1) := by decide +kernel
theorem dJ6_bitCount_0f7a4_22 : decode cJ6_bitCount_0f7a4 22 = .ok (.iadd, 1) := by decide +kernel
theorem dJ6_bitCount_0f7a4_23 : decode cJ6_bitCount_0f7a4 23 = .ok (.istore_n 0, 1) := by decide +kernel
theorem dJ6_bitCount_0f7a4_24 : decode cJ6_bitCount_0f7a4 24 = .ok (.iload_n 0, 1) := by decide +kernel
theorem dJ6_bitCount_0f7a4_25 : decode cJ6_bitCount_0f7a4 25 = .ok (.iload_n 0, 1) := by decide +kernel
theorem dJ6_bitCount_0f7a4_26 : decode cJ6_bitCount_0f7a4 26 = .ok (.iconst 4, 1) := by decide +kernel
theorem dJ6_bitCount_0f7a4_27 : decode cJ6_bitCount_0f7a4 27 = .ok (.iushr, 1) := by decide +kernel
theorem dJ6_bitCount_0f7a4_28 : decode cJ6_bitCount_0f7a4 28 = .ok (.iadd, 1) := by decide +kernel
theorem dJ6_bitCount_0f7a4_29 : decode cJ6_bitCount_0f7a4 29 = .ok (.ldc_w 267, 3) := by decide +kernel
theorem dJ6_bitCount_0f7a4_32 : decode cJ6_bitCount_0f7a4 32 = .ok (.iand, 1) := by decide +kernel
theorem dJ6_bitCount_0f7a4_33 : decode cJ6_bitCount_0f7a4 33 = .ok (.istore_n 0, 1) := by decide +kernel
theorem dJ6_bitCount_0f7a4_34 : decode cJ6_bitCount_0f7a4 34 = .ok (.iload_n 0, 1) := by decide +kernel
theorem dJ6_bitCount_0f7a4_35 : decode cJ6_bitCount_0f7a4 35 = .ok (.iload_n 0, 1) := by decide +kernel
theorem dJ6_bitCount_0f7a4_36 : decode cJ6_bitCount_0f7a4 36 = .ok (.bipush 8, 2) := by decide +kernel
theorem dJ6_bitCount_0f7a4_38 : decode cJ6_bitCount_0f7a4 38 = .ok (.iushr, 1) := by decide +kernel
theorem dJ6_bitCount_0f7a4_39 : decode cJ6_bitCount_0f7a4 39 = .ok (.iadd, 1) := by decide +kernel
theorem dJ6_bitCount_0f7a4_40 : decode cJ6_bitCount_0f7a4 40 = .ok (.istore_n 0, 1) := by decide +kernel
theorem dJ6_bitCount_0f7a4_41 : decode cJ6_bitCount_0f7a4 41 = .ok (.iload_n 0, 1) := by decide +kernel
theorem dJ6_bitCount_0f7a4_42 : decode cJ6_bitCount_0f7a4 42 = .ok (.iload_n 0, 1) := by decide +kernel
theorem dJ6_bitCount_0f7a4_43 : decode cJ6_bitCount_0f7a4 43 = .ok (.bipush 16, 2) := by decide +kernel
theorem dJ6_bitCount_0f7a4_45 : decode cJ6_bitCount_0f7a4 45 = .ok (.iushr, 1) := by decide +kernel
theorem dJ6_bitCount_0f7a4_46 : decode cJ6_bitCount_0f7a4 46 = .ok (.iadd, 1) := by decide +kernel
theorem dJ6_bitCount_0f7a4_47 : decode cJ6_bitCount_0f7a4 47 = .ok (.istore_n 0, 1) := by decide +kernel
theorem dJ6_bitCount_0f7a4_48 : decode cJ6_bitCount_0f7a4 48 = .ok (.iload_n 0, 1) := by decide +kernel
theorem dJ6_bitCount_0f7a4_49 : decode cJ6_bitCount_0f7a4 49 = .ok (.bipush 63, 2) := by decide +kernel
theorem dJ6_bitCount_0f7a4_51 : decode cJ6_bitCount_0f7a4 51 = .ok (.iand, 1) := by decide +kernel
theorem dJ6_bitCount_0f7a4_52 : decode cJ6_bitCount_0f7a4 52 = .ok (.ireturn, 1) := by decide +kernel
abbrev rmJ6_bitCount_0f7a4 : Room := { frames := 1, cells := 0, slots := 0, locals := 40 }
noncomputable def fJ6_bitCount_0f7a4 (n : Nat) (Sh : Sp) (M : Mm) (a0 : Int32) : Option Int32 :=
  some ((((((((a0 - (((a0.toUInt32 >>> (Int32.toUInt32 1 &&& Int32.toUInt32 31)).toInt32) &&& 1431655765)) &&& 858993459) + ((((a0 - (((a0.toUInt32 >>> (Int32.toUInt32 1 &&& Int32.toUInt32 31)).toInt32) &&& 1431655765)).toUInt32 >>> (Int32.toUInt32 2 &&& Int32.toUInt32 31)).toInt32) &&& 858993459)) + (((((a0 - (((a0.toUInt32 >>> (Int32.toUInt32 1 &&& Int32.toUInt32 31)).toInt32) &&& 1431655765)) &&& 858993459) + ((((a0 - (((a0.toUInt32 >>> (Int32.toUInt32 1 &&& Int32.toUInt32 31)).toInt32) &&& 1431655765)).toUInt32 >>> (Int32.toUInt32 2 &&& Int32.toUInt32 31)).toInt32) &&& 858993459)).toUInt32 >>> (Int32.toUInt32 4 &&& Int32.toUInt32 31)).toInt32)) &&& 252645135) + (((((((a0 - (((a0.toUInt32 >>> (Int32.toUInt32 1 &&& Int32.toUInt32 31)).toInt32) &&& 1431655765)) &&& 858993459) + ((((a0 - (((a0.toUInt32 >>> (Int32.toUInt32 1 &&& Int32.toUInt32 31)).toInt32) &&& 1431655765)).toUInt32 >>> (Int32.toUInt32 2 &&& Int32.toUInt32 31)).toInt32) &&& 858993459)) + (((((a0 - (((a0.toUInt32 >>> (Int32.toUInt32 1 &&& Int32.toUInt32 31)).toInt32) &&& 1431655765)) &&& 858993459) + ((((a0 - (((a0.toUInt32 >>> (Int32.toUInt32 1 &&& Int32.toUInt32 31)).toInt32) &&& 1431655765)).toUInt32 >>> (Int32.toUInt32 2 &&& Int32.toUInt32 31)).toInt32) &&& 858993459)).toUInt32 >>> (Int32.toUInt32 4 &&& Int32.toUInt32 31)).toInt32)) &&& 252645135).toUInt32 >>> (Int32.toUInt32 8 &&& Int32.toUInt32 31)).toInt32)) + ((((((((a0 - (((a0.toUInt32 >>> (Int32.toUInt32 1 &&& Int32.toUInt32 31)).toInt32) &&& 1431655765)) &&& 858993459) + ((((a0 - (((a0.toUInt32 >>> (Int32.toUInt32 1 &&& Int32.toUInt32 31)).toInt32) &&& 1431655765)).toUInt32 >>> (Int32.toUInt32 2 &&& Int32.toUInt32 31)).toInt32) &&& 858993459)) + (((((a0 - (((a0.toUInt32 >>> (Int32.toUInt32 1 &&& Int32.toUInt32 31)).toInt32) &&& 1431655765)) &&& 858993459) + ((((a0 - (((a0.toUInt32 >>> (Int32.toUInt32 1 &&& Int32.toUInt32 31)).toInt32) &&& 1431655765)).toUInt32 >>> (Int32.toUInt32 2 &&& Int32.toUInt32 31)).toInt32) &&& 858993459)).toUInt32 >>> (Int32.toUInt32 4 &&& Int32.toUInt32 31)).toInt32)) &&& 252645135) + (((((((a0 - (((a0.toUInt32 >>> (Int32.toUInt32 1 &&& Int32.toUInt32 31)).toInt32) &&& 1431655765)) &&& 858993459) + ((((a0 - (((a0.toUInt32 >>> (Int32.toUInt32 1 &&& Int32.toUInt32 31)).toInt32) &&& 1431655765)).toUInt32 >>> (Int32.toUInt32 2 &&& Int32.toUInt32 31)).toInt32) &&& 858993459)) + (((((a0 - (((a0.toUInt32 >>> (Int32.toUInt32 1 &&& Int32.toUInt32 31)).toInt32) &&& 1431655765)) &&& 858993459) + ((((a0 - (((a0.toUInt32 >>> (Int32.toUInt32 1 &&& Int32.toUInt32 31)).toInt32) &&& 1431655765)).toUInt32 >>> (Int32.toUInt32 2 &&& Int32.toUInt32 31)).toInt32) &&& 858993459)).toUInt32 >>> (Int32.toUInt32 4 &&& Int32.toUInt32 31)).toInt32)) &&& 252645135).toUInt32 >>> (Int32.toUInt32 8 &&& Int32.toUInt32 31)).toInt32)).toUInt32 >>> (Int32.toUInt32 16 &&& Int32.toUInt32 31)).toInt32)) &&& 63)
set_option maxRecDepth 100000 in
set_option maxHeartbeats 4000000 in
theorem kJ6_bitCount_0f7a4 {l : Launch} {G : Gt} {n : Nat} {Sh : Sp} {M : Mm} {a0 : Int32} {r : Int32} (h : fJ6_bitCount_0f7a4 n Sh M a0 = some r) : Ct l yJ6_bitCount_0f7a4 cJ6_bitCount_0f7a4 1 (some .int) rmJ6_bitCount_0f7a4 G Sh M [.int a0] (some (.int r)) M := by
  refine Ct.of (by decide) (Nat.le_of_ble_eq_true rfl) ?_
  intro p e s m args below meth c ls C hK hX hP hS hb hlk hr hl
  replace hl : lv_has ls 1 [(0, .int a0)] := hl
  unfold fJ6_bitCount_0f7a4 at h
  refine lv_iload_n C.1 C.2.1 dJ6_bitCount_0f7a4_0 rfl (lv_at hl 0 rfl) ?_
  refine lv_iload_n C.1 C.2.1 dJ6_bitCount_0f7a4_1 rfl (lv_at hl 0 rfl) ?_
  refine lv_iconst (v := 1) C.1 C.2.1 dJ6_bitCount_0f7a4_2 (by decide) ?_
  refine lv_iushr C.1 C.2.1 dJ6_bitCount_0f7a4_3 rfl ?_
  refine lv_ldcw (v := 1431655765) C.1 C.2.1 C.2.2.2.1 (C.2.2.2.2 _ wd_818) dJ6_bitCount_0f7a4_4 ?_
  refine lv_iand C.1 C.2.1 dJ6_bitCount_0f7a4_7 ?_
  refine lv_isub C.1 C.2.1 dJ6_bitCount_0f7a4_8 ?_
  refine lv_istore_n (lv' := [(0, .int (a0 - (((a0.toUInt32 >>> (Int32.toUInt32 1 &&& Int32.toUInt32 31)).toInt32) &&& 1431655765)))]) C.1 C.2.1 dJ6_bitCount_0f7a4_9 rfl hl (by decide) rfl (fun ls hl => ?_)
  refine lv_iload_n C.1 C.2.1 dJ6_bitCount_0f7a4_10 rfl (lv_at hl 0 rfl) ?_
  refine lv_ldcw (v := 858993459) C.1 C.2.1 C.2.2.2.1 (C.2.2.2.2 _ wd_819) dJ6_bitCount_0f7a4_11 ?_
  refine lv_iand C.1 C.2.1 dJ6_bitCount_0f7a4_14 ?_
  refine lv_iload_n C.1 C.2.1 dJ6_bitCount_0f7a4_15 rfl (lv_at hl 0 rfl) ?_
  refine lv_iconst (v := 2) C.1 C.2.1 dJ6_bitCount_0f7a4_16 (by decide) ?_
  refine lv_iushr C.1 C.2.1 dJ6_bitCount_0f7a4_17 rfl ?_
  refine lv_ldcw (v := 858993459) C.1 C.2.1 C.2.2.2.1 (C.2.2.2.2 _ wd_819) dJ6_bitCount_0f7a4_18 ?_
  refine lv_iand C.1 C.2.1 dJ6_bitCount_0f7a4_21 ?_
  refine lv_iadd C.1 C.2.1 dJ6_bitCount_0f7a4_22 ?_
  refine lv_istore_n (lv' := [(0, .int (((a0 - (((a0.toUInt32 >>> (Int32.toUInt32 1 &&& Int32.toUInt32 31)).toInt32) &&& 1431655765)) &&& 858993459) + ((((a0 - (((a0.toUInt32 >>> (Int32.toUInt32 1 &&& Int32.toUInt32 31)).toInt32) &&& 1431655765)).toUInt32 >>> (Int32.toUInt32 2 &&& Int32.toUInt32 31)).toInt32) &&& 858993459)))]) C.1 C.2.1 dJ6_bitCount_0f7a4_23 rfl hl (by decide) rfl (fun ls hl => ?_)
  refine lv_iload_n C.1 C.2.1 dJ6_bitCount_0f7a4_24 rfl (lv_at hl 0 rfl) ?_
  refine lv_iload_n C.1 C.2.1 dJ6_bitCount_0f7a4_25 rfl (lv_at hl 0 rfl) ?_
  refine lv_iconst (v := 4) C.1 C.2.1 dJ6_bitCount_0f7a4_26 (by decide) ?_
  refine lv_iushr C.1 C.2.1 dJ6_bitCount_0f7a4_27 rfl ?_
  refine lv_iadd C.1 C.2.1 dJ6_bitCount_0f7a4_28 ?_
  refine lv_ldcw (v := 252645135) C.1 C.2.1 C.2.2.2.1 (C.2.2.2.2 _ wd_820) dJ6_bitCount_0f7a4_29 ?_
  refine lv_iand C.1 C.2.1 dJ6_bitCount_0f7a4_32 ?_
  refine lv_istore_n (lv' := [(0, .int (((((a0 - (((a0.toUInt32 >>> (Int32.toUInt32 1 &&& Int32.toUInt32 31)).toInt32) &&& 1431655765)) &&& 858993459) + ((((a0 - (((a0.toUInt32 >>> (Int32.toUInt32 1 &&& Int32.toUInt32 31)).toInt32) &&& 1431655765)).toUInt32 >>> (Int32.toUInt32 2 &&& Int32.toUInt32 31)).toInt32) &&& 858993459)) + (((((a0 - (((a0.toUInt32 >>> (Int32.toUInt32 1 &&& Int32.toUInt32 31)).toInt32) &&& 1431655765)) &&& 858993459) + ((((a0 - (((a0.toUInt32 >>> (Int32.toUInt32 1 &&& Int32.toUInt32 31)).toInt32) &&& 1431655765)).toUInt32 >>> (Int32.toUInt32 2 &&& Int32.toUInt32 31)).toInt32) &&& 858993459)).toUInt32 >>> (Int32.toUInt32 4 &&& Int32.toUInt32 31)).toInt32)) &&& 252645135))]) C.1 C.2.1 dJ6_bitCount_0f7a4_33 rfl hl (by decide) rfl (fun ls hl => ?_)
  refine lv_iload_n C.1 C.2.1 dJ6_bitCount_0f7a4_34 rfl (lv_at hl 0 rfl) ?_
  refine lv_iload_n C.1 C.2.1 dJ6_bitCount_0f7a4_35 rfl (lv_at hl 0 rfl) ?_
  refine lv_bipush (v := 8) C.1 C.2.1 dJ6_bitCount_0f7a4_36 (by decide) ?_
  refine lv_iushr C.1 C.2.1 dJ6_bitCount_0f7a4_38 rfl ?_
  refine lv_iadd C.1 C.2.1 dJ6_bitCount_0f7a4_39 ?_
  refine lv_istore_n (lv' := [(0, .int ((((((a0 - (((a0.toUInt32 >>> (Int32.toUInt32 1 &&& Int32.toUInt32 31)).toInt32) &&& 1431655765)) &&& 858993459) + ((((a0 - (((a0.toUInt32 >>> (Int32.toUInt32 1 &&& Int32.toUInt32 31)).toInt32) &&& 1431655765)).toUInt32 >>> (Int32.toUInt32 2 &&& Int32.toUInt32 31)).toInt32) &&& 858993459)) + (((((a0 - (((a0.toUInt32 >>> (Int32.toUInt32 1 &&& Int32.toUInt32 31)).toInt32) &&& 1431655765)) &&& 858993459) + ((((a0 - (((a0.toUInt32 >>> (Int32.toUInt32 1 &&& Int32.toUInt32 31)).toInt32) &&& 1431655765)).toUInt32 >>> (Int32.toUInt32 2 &&& Int32.toUInt32 31)).toInt32) &&& 858993459)).toUInt32 >>> (Int32.toUInt32 4 &&& Int32.toUInt32 31)).toInt32)) &&& 252645135) + (((((((a0 - (((a0.toUInt32 >>> (Int32.toUInt32 1 &&& Int32.toUInt32 31)).toInt32) &&& 1431655765)) &&& 858993459) + ((((a0 - (((a0.toUInt32 >>> (Int32.toUInt32 1 &&& Int32.toUInt32 31)).toInt32) &&& 1431655765)).toUInt32 >>> (Int32.toUInt32 2 &&& Int32.toUInt32 31)).toInt32) &&& 858993459)) + (((((a0 - (((a0.toUInt32 >>> (Int32.toUInt32 1 &&& Int32.toUInt32 31)).toInt32) &&& 1431655765)) &&& 858993459) + ((((a0 - (((a0.toUInt32 >>> (Int32.toUInt32 1 &&& Int32.toUInt32 31)).toInt32) &&& 1431655765)).toUInt32 >>> (Int32.toUInt32 2 &&& Int32.toUInt32 31)).toInt32) &&& 858993459)).toUInt32 >>> (Int32.toUInt32 4 &&& Int32.toUInt32 31)).toInt32)) &&& 252645135).toUInt32 >>> (Int32.toUInt32 8 &&& Int32.toUInt32 31)).toInt32)))]) C.1 C.2.1 dJ6_bitCount_0f7a4_40 rfl hl (by decide) rfl (fun ls hl => ?_)
  refine lv_iload_n C.1 C.2.1 dJ6_bitCount_0f7a4_41 rfl (lv_at hl 0 rfl) ?_
  refine lv_iload_n C.1 C.2.1 dJ6_bitCount_0f7a4_42 rfl (lv_at hl 0 rfl) ?_
  refine lv_bipush (v := 16) C.1 C.2.1 dJ6_bitCount_0f7a4_43 (by decide) ?_
  refine lv_iushr C.1 C.2.1 dJ6_bitCount_0f7a4_45 rfl ?_
  refine lv_iadd C.1 C.2.1 dJ6_bitCount_0f7a4_46 ?_
  refine lv_istore_n (lv' := [(0, .int (((((((a0 - (((a0.toUInt32 >>> (Int32.toUInt32 1 &&& Int32.toUInt32 31)).toInt32) &&& 1431655765)) &&& 858993459) + ((((a0 - (((a0.toUInt32 >>> (Int32.toUInt32 1 &&& Int32.toUInt32 31)).toInt32) &&& 1431655765)).toUInt32 >>> (Int32.toUInt32 2 &&& Int32.toUInt32 31)).toInt32) &&& 858993459)) + (((((a0 - (((a0.toUInt32 >>> (Int32.toUInt32 1 &&& Int32.toUInt32 31)).toInt32) &&& 1431655765)) &&& 858993459) + ((((a0 - (((a0.toUInt32 >>> (Int32.toUInt32 1 &&& Int32.toUInt32 31)).toInt32) &&& 1431655765)).toUInt32 >>> (Int32.toUInt32 2 &&& Int32.toUInt32 31)).toInt32) &&& 858993459)).toUInt32 >>> (Int32.toUInt32 4 &&& Int32.toUInt32 31)).toInt32)) &&& 252645135) + (((((((a0 - (((a0.toUInt32 >>> (Int32.toUInt32 1 &&& Int32.toUInt32 31)).toInt32) &&& 1431655765)) &&& 858993459) + ((((a0 - (((a0.toUInt32 >>> (Int32.toUInt32 1 &&& Int32.toUInt32 31)).toInt32) &&& 1431655765)).toUInt32 >>> (Int32.toUInt32 2 &&& Int32.toUInt32 31)).toInt32) &&& 858993459)) + (((((a0 - (((a0.toUInt32 >>> (Int32.toUInt32 1 &&& Int32.toUInt32 31)).toInt32) &&& 1431655765)) &&& 858993459) + ((((a0 - (((a0.toUInt32 >>> (Int32.toUInt32 1 &&& Int32.toUInt32 31)).toInt32) &&& 1431655765)).toUInt32 >>> (Int32.toUInt32 2 &&& Int32.toUInt32 31)).toInt32) &&& 858993459)).toUInt32 >>> (Int32.toUInt32 4 &&& Int32.toUInt32 31)).toInt32)) &&& 252645135).toUInt32 >>> (Int32.toUInt32 8 &&& Int32.toUInt32 31)).toInt32)) + ((((((((a0 - (((a0.toUInt32 >>> (Int32.toUInt32 1 &&& Int32.toUInt32 31)).toInt32) &&& 1431655765)) &&& 858993459) + ((((a0 - (((a0.toUInt32 >>> (Int32.toUInt32 1 &&& Int32.toUInt32 31)).toInt32) &&& 1431655765)).toUInt32 >>> (Int32.toUInt32 2 &&& Int32.toUInt32 31)).toInt32) &&& 858993459)) + (((((a0 - (((a0.toUInt32 >>> (Int32.toUInt32 1 &&& Int32.toUInt32 31)).toInt32) &&& 1431655765)) &&& 858993459) + ((((a0 - (((a0.toUInt32 >>> (Int32.toUInt32 1 &&& Int32.toUInt32 31)).toInt32) &&& 1431655765)).toUInt32 >>> (Int32.toUInt32 2 &&& Int32.toUInt32 31)).toInt32) &&& 858993459)).toUInt32 >>> (Int32.toUInt32 4 &&& Int32.toUInt32 31)).toInt32)) &&& 252645135) + (((((((a0 - (((a0.toUInt32 >>> (Int32.toUInt32 1 &&& Int32.toUInt32 31)).toInt32) &&& 1431655765)) &&& 858993459) + ((((a0 - (((a0.toUInt32 >>> (Int32.toUInt32 1 &&& Int32.toUInt32 31)).toInt32) &&& 1431655765)).toUInt32 >>> (Int32.toUInt32 2 &&& Int32.toUInt32 31)).toInt32) &&& 858993459)) + (((((a0 - (((a0.toUInt32 >>> (Int32.toUInt32 1 &&& Int32.toUInt32 31)).toInt32) &&& 1431655765)) &&& 858993459) + ((((a0 - (((a0.toUInt32 >>> (Int32.toUInt32 1 &&& Int32.toUInt32 31)).toInt32) &&& 1431655765)).toUInt32 >>> (Int32.toUInt32 2 &&& Int32.toUInt32 31)).toInt32) &&& 858993459)).toUInt32 >>> (Int32.toUInt32 4 &&& Int32.toUInt32 31)).toInt32)) &&& 252645135).toUInt32 >>> (Int32.toUInt32 8 &&& Int32.toUInt32 31)).toInt32)).toUInt32 >>> (Int32.toUInt32 16 &&& Int32.toUInt32 31)).toInt32)))]) C.1 C.2.1 dJ6_bitCount_0f7a4_47 rfl hl (by decide) rfl (fun ls hl => ?_)
  refine lv_iload_n C.1 C.2.1 dJ6_bitCount_0f7a4_48 rfl (lv_at hl 0 rfl) ?_
  refine lv_bipush (v := 63) C.1 C.2.1 dJ6_bitCount_0f7a4_49 (by decide) ?_
  refine lv_iand C.1 C.2.1 dJ6_bitCount_0f7a4_51 ?_
  have e := Option.some.inj h
  exact q_i C hlk hP hS hr (by rw [← e]) rfl dJ6_bitCount_0f7a4_52
theorem dX5_empty_0 : decode cX5_empty 0 = .ok (.aload_n 0, 1) := by decide +kernel
theorem dX5_empty_1 : decode cX5_empty 1 = .ok (.iconst 0, 1) := by decide +kernel
theorem dX5_empty_2 : decode cX5_empty 2 = .ok (.putfield 9, 3) := by decide +kernel
theorem dX5_empty_5 : decode cX5_empty 5 = .ok (.return_, 1) := by decide +kernel
abbrev rmX5_empty : Room := { frames := 1, cells := 0, slots := 0, locals := 40 }
noncomputable def fX5_empty (n : Nat) (Sh : Sp) (M : Mm) (a0 : Nat) : Option Mm :=
  qI M a0 1 0 fun M1 =>
  some M1
set_option maxRecDepth 100000 in
set_option maxHeartbeats 4000000 in
theorem kX5_empty {l : Launch} {G : Gt} {n : Nat} {Sh : Sp} {M : Mm} {a0 : Nat} (hT : Sh a0 = some (.inl 5)) {r : Mm} (h : fX5_empty n Sh M a0 = some r) : Ct l yX5_empty cX5_empty 1 none rmX5_empty G Sh M [.ref a0] none r := by
  refine Ct.of (by decide) (Nat.le_of_ble_eq_true rfl) ?_
  intro p e s m args below meth c ls C hK hX hP hS hb hlk hr hl
  replace hl : lv_has ls 1 [(0, .ref a0)] := hl
  unfold fX5_empty at h
  refine lv_aload_n C.1 C.2.1 dX5_empty_0 rfl (lv_at hl 0 rfl) ?_
  refine lv_iconst (v := 0) C.1 C.2.1 dX5_empty_1 (by decide) ?_
  refine r_qI C hK hP hS hT cl_5 (k := 1) (by decide) wd_124 rfl rfl (tyX5_ok 1 (by decide)) dX5_empty_2 h (fun M1 H locs h hP hS => ?_)
  have e := Option.some.inj h
  exact q_v C hlk hP hS hr rfl e.symm dX5_empty_5
theorem dX5_put_0 : decode cX5_put 0 = .ok (.aload_n 0, 1) := by decide +kernel
theorem dX5_put_1 : decode cX5_put 1 = .ok (.getfield 9, 3) := by decide +kernel
theorem dX5_put_4 : decode cX5_put 4 = .ok (.aload_n 0, 1) := by decide +kernel
theorem dX5_put_5 : decode cX5_put 5 = .ok (.getfield 15, 3) := by decide +kernel
theorem dX5_put_8 : decode cX5_put 8 = .ok (.arraylength, 1) := by decide +kernel
theorem dX5_put_9 : decode cX5_put 9 = .ok (.if_icmp .ge 24, 3) := by decide +kernel
theorem dX5_put_12 : decode cX5_put 12 = .ok (.aload_n 0, 1) := by decide +kernel
theorem dX5_put_13 : decode cX5_put 13 = .ok (.getfield 15, 3) := by decide +kernel
theorem dX5_put_16 : decode cX5_put 16 = .ok (.aload_n 0, 1) := by decide +kernel
theorem dX5_put_17 : decode cX5_put 17 = .ok (.getfield 9, 3) := by decide +kernel
theorem dX5_put_20 : decode cX5_put 20 = .ok (.iload_n 1, 1) := by decide +kernel
theorem dX5_put_21 : decode cX5_put 21 = .ok (.i2c, 1) := by decide +kernel
theorem dX5_put_22 : decode cX5_put 22 = .ok (.castore, 1) := by decide +kernel
theorem dX5_put_23 : decode cX5_put 23 = .ok (.aload_n 0, 1) := by decide +kernel
theorem dX5_put_24 : decode cX5_put 24 = .ok (.dup, 1) := by decide +kernel
theorem dX5_put_25 : decode cX5_put 25 = .ok (.getfield 9, 3) := by decide +kernel
theorem dX5_put_28 : decode cX5_put 28 = .ok (.iconst 1, 1) := by decide +kernel
theorem dX5_put_29 : decode cX5_put 29 = .ok (.iadd, 1) := by decide +kernel
theorem dX5_put_30 : decode cX5_put 30 = .ok (.putfield 9, 3) := by decide +kernel
theorem dX5_put_33 : decode cX5_put 33 = .ok (.return_, 1) := by decide +kernel
abbrev rmX5_put : Room := { frames := 1, cells := 0, slots := 0, locals := 40 }
noncomputable def fX5_put (n : Nat) (Sh : Sp) (M : Mm) (a0 : Nat) (a1 : Int32) : Option Mm :=
  tI M a0 1 fun x1 =>
  tF M a0 0 fun b2 =>
  aN Sh b2 fun x3 =>
  if x1 < x3 then
    tF M a0 0 fun b4 =>
    tI M a0 1 fun x5 =>
    sC Sh M b4 x5 (((Int32.toUInt32 a1) % 65536).toInt32) fun M6 =>
    tI M6 a0 1 fun x7 =>
    qI M6 a0 1 (x7 + 1) fun M8 =>
    some M8
  else
    some M
set_option maxRecDepth 100000 in
set_option maxHeartbeats 4000000 in
theorem kX5_put {l : Launch} {G : Gt} {n : Nat} {Sh : Sp} {M : Mm} {a0 : Nat} {a1 : Int32} (hT : Sh a0 = some (.inl 5)) {r : Mm} (h : fX5_put n Sh M a0 a1 = some r) : Ct l yX5_put cX5_put 2 none rmX5_put G Sh M [.ref a0, .int a1] none r := by
  refine Ct.of (by decide) (Nat.le_of_ble_eq_true rfl) ?_
  intro p e s m args below meth c ls C hK hX hP hS hb hlk hr hl
  replace hl : lv_has ls 2 [(0, .ref a0), (1, .int a1)] := hl
  unfold fX5_put at h
  refine lv_aload_n C.1 C.2.1 dX5_put_0 rfl (lv_at hl 0 rfl) ?_
  refine r_tI C hK hP hT cl_5 (k := 1) (by decide) wd_124 rfl dX5_put_1 h (fun x1 h => ?_)
  refine lv_aload_n C.1 C.2.1 dX5_put_4 rfl (lv_at hl 0 rfl) ?_
  refine r_tF C hK hP hT cl_5 (k := 0) (by decide) wd_123 rfl dX5_put_5 h (fun b2 h => ?_)
  refine r_aN C hK hP dX5_put_8 h (fun x3 h => ?_)
  refine b_ige (tgt := 33) C dX5_put_9 (by decide) h (fun h => ?_) (fun h => ?_)
  · refine lv_aload_n C.1 C.2.1 dX5_put_12 rfl (lv_at hl 0 rfl) ?_
    refine r_tF C hK hP hT cl_5 (k := 0) (by decide) wd_123 rfl dX5_put_13 h (fun b4 h => ?_)
    refine lv_aload_n C.1 C.2.1 dX5_put_16 rfl (lv_at hl 0 rfl) ?_
    refine r_tI C hK hP hT cl_5 (k := 1) (by decide) wd_124 rfl dX5_put_17 h (fun x5 h => ?_)
    refine lv_iload_n C.1 C.2.1 dX5_put_20 rfl (lv_at hl 1 rfl) ?_
    refine lv_i2c C.1 C.2.1 dX5_put_21 rfl ?_
    refine r_sC C hK hP hS dX5_put_22 h (fun M6 H locs h hP hS => ?_)
    refine lv_aload_n C.1 C.2.1 dX5_put_23 rfl (lv_at hl 0 rfl) ?_
    refine lv_dup C.1 C.2.1 dX5_put_24 rfl ?_
    refine r_tI C hK hP hT cl_5 (k := 1) (by decide) wd_124 rfl dX5_put_25 h (fun x7 h => ?_)
    refine lv_iconst (v := 1) C.1 C.2.1 dX5_put_28 (by decide) ?_
    refine lv_iadd C.1 C.2.1 dX5_put_29 ?_
    refine r_qI C hK hP hS hT cl_5 (k := 1) (by decide) wd_124 rfl rfl (tyX5_ok 1 (by decide)) dX5_put_30 h (fun M8 H locs h hP hS => ?_)
    have e := Option.some.inj h
    exact q_v C hlk hP hS hr rfl e.symm dX5_put_33
  · have e := Option.some.inj h
    exact q_v C hlk hP hS hr rfl e.symm dX5_put_33
theorem dX5_at_0 : decode cX5_at 0 = .ok (.iload_n 1, 1) := by decide +kernel
theorem dX5_at_1 : decode cX5_at 1 = .ok (.ifCond .lt 29, 3) := by decide +kernel
theorem dX5_at_4 : decode cX5_at 4 = .ok (.iload_n 1, 1) := by decide +kernel
theorem dX5_at_5 : decode cX5_at 5 = .ok (.aload_n 0, 1) := by decide +kernel
theorem dX5_at_6 : decode cX5_at 6 = .ok (.getfield 9, 3) := by decide +kernel
theorem dX5_at_9 : decode cX5_at 9 = .ok (.if_icmp .ge 21, 3) := by decide +kernel
theorem dX5_at_12 : decode cX5_at 12 = .ok (.iload_n 1, 1) := by decide +kernel
theorem dX5_at_13 : decode cX5_at 13 = .ok (.aload_n 0, 1) := by decide +kernel
theorem dX5_at_14 : decode cX5_at 14 = .ok (.getfield 15, 3) := by decide +kernel
theorem dX5_at_17 : decode cX5_at 17 = .ok (.arraylength, 1) := by decide +kernel
theorem dX5_at_18 : decode cX5_at 18 = .ok (.if_icmp .ge 12, 3) := by decide +kernel
theorem dX5_at_21 : decode cX5_at 21 = .ok (.aload_n 0, 1) := by decide +kernel
theorem dX5_at_22 : decode cX5_at 22 = .ok (.getfield 15, 3) := by decide +kernel
theorem dX5_at_25 : decode cX5_at 25 = .ok (.iload_n 1, 1) := by decide +kernel
theorem dX5_at_26 : decode cX5_at 26 = .ok (.caload, 1) := by decide +kernel
theorem dX5_at_27 : decode cX5_at 27 = .ok (.goto 4, 3) := by decide +kernel
theorem dX5_at_30 : decode cX5_at 30 = .ok (.iconst (-1), 1) := by decide +kernel
theorem dX5_at_31 : decode cX5_at 31 = .ok (.ireturn, 1) := by decide +kernel
abbrev rmX5_at : Room := { frames := 1, cells := 0, slots := 0, locals := 40 }
noncomputable def fX5_at (n : Nat) (Sh : Sp) (M : Mm) (a0 : Nat) (a1 : Int32) : Option Int32 :=
  if a1 < 0 then
    some (-1)
  else
    tI M a0 1 fun x1 =>
    if a1 < x1 then
      tF M a0 0 fun b2 =>
      aN Sh b2 fun x3 =>
      if a1 < x3 then
        tF M a0 0 fun b4 =>
        aI Sh M b4 1 a1 fun x5 =>
        some x5
      else
        some (-1)
    else
      some (-1)
set_option maxRecDepth 100000 in
set_option maxHeartbeats 4000000 in
theorem kX5_at {l : Launch} {G : Gt} {n : Nat} {Sh : Sp} {M : Mm} {a0 : Nat} {a1 : Int32} (hT : Sh a0 = some (.inl 5)) {r : Int32} (h : fX5_at n Sh M a0 a1 = some r) : Ct l yX5_at cX5_at 2 (some .int) rmX5_at G Sh M [.ref a0, .int a1] (some (.int r)) M := by
  refine Ct.of (by decide) (Nat.le_of_ble_eq_true rfl) ?_
  intro p e s m args below meth c ls C hK hX hP hS hb hlk hr hl
  replace hl : lv_has ls 2 [(0, .ref a0), (1, .int a1)] := hl
  unfold fX5_at at h
  refine lv_iload_n C.1 C.2.1 dX5_at_0 rfl (lv_at hl 1 rfl) ?_
  refine b_lt (tgt := 30) C dX5_at_1 (by decide) h (fun h => ?_) (fun h => ?_)
  · refine lv_iconst (v := (-1)) C.1 C.2.1 dX5_at_30 (by decide) ?_
    have e := Option.some.inj h
    exact q_i C hlk hP hS hr (by rw [← e]) rfl dX5_at_31
  · refine lv_iload_n C.1 C.2.1 dX5_at_4 rfl (lv_at hl 1 rfl) ?_
    refine lv_aload_n C.1 C.2.1 dX5_at_5 rfl (lv_at hl 0 rfl) ?_
    refine r_tI C hK hP hT cl_5 (k := 1) (by decide) wd_124 rfl dX5_at_6 h (fun x1 h => ?_)
    refine b_ige (tgt := 30) C dX5_at_9 (by decide) h (fun h => ?_) (fun h => ?_)
    · refine lv_iload_n C.1 C.2.1 dX5_at_12 rfl (lv_at hl 1 rfl) ?_
      refine lv_aload_n C.1 C.2.1 dX5_at_13 rfl (lv_at hl 0 rfl) ?_
      refine r_tF C hK hP hT cl_5 (k := 0) (by decide) wd_123 rfl dX5_at_14 h (fun b2 h => ?_)
      refine r_aN C hK hP dX5_at_17 h (fun x3 h => ?_)
      refine b_ige (tgt := 30) C dX5_at_18 (by decide) h (fun h => ?_) (fun h => ?_)
      · refine lv_aload_n C.1 C.2.1 dX5_at_21 rfl (lv_at hl 0 rfl) ?_
        refine r_tF C hK hP hT cl_5 (k := 0) (by decide) wd_123 rfl dX5_at_22 h (fun b4 h => ?_)
        refine lv_iload_n C.1 C.2.1 dX5_at_25 rfl (lv_at hl 1 rfl) ?_
        refine r_aC C hK hP dX5_at_26 h (fun x5 h => ?_)
        refine lv_goto (tgt := 31) C.1 C.2.1 dX5_at_27 (by decide) ?_
        have e := Option.some.inj h
        exact q_i C hlk hP hS hr (by rw [← e]) rfl dX5_at_31
      · refine lv_iconst (v := (-1)) C.1 C.2.1 dX5_at_30 (by decide) ?_
        have e := Option.some.inj h
        exact q_i C hlk hP hS hr (by rw [← e]) rfl dX5_at_31
    · refine lv_iconst (v := (-1)) C.1 C.2.1 dX5_at_30 (by decide) ?_
      have e := Option.some.inj h
      exact q_i C hlk hP hS hr (by rw [← e]) rfl dX5_at_31
theorem dX5_matches_0 : decode cX5_matches 0 = .ok (.aload_n 0, 1) := by decide +kernel
theorem dX5_matches_1 : decode cX5_matches 1 = .ok (.getfield 9, 3) := by decide +kernel
theorem dX5_matches_4 : decode cX5_matches 4 = .ok (.aload_n 1, 1) := by decide +kernel
theorem dX5_matches_5 : decode cX5_matches 5 = .ok (.getfield 9, 3) := by decide +kernel
theorem dX5_matches_8 : decode cX5_matches 8 = .ok (.if_icmp .eq 5, 3) := by decide +kernel
theorem dX5_matches_11 : decode cX5_matches 11 = .ok (.iconst 0, 1) := by decide +kernel
theorem dX5_matches_12 : decode cX5_matches 12 = .ok (.ireturn, 1) := by decide +kernel
theorem dX5_matches_13 : decode cX5_matches 13 = .ok (.iconst 0, 1) := by decide +kernel
theorem dX5_matches_14 : decode cX5_matches 14 = .ok (.istore_n 2, 1) := by decide +kernel
theorem dX5_matches_15 : decode cX5_matches 15 = .ok (.iload_n 2, 1) := by decide +kernel
theorem dX5_matches_16 : decode cX5_matches 16 = .ok (.aload_n 0, 1) := by decide +kernel
theorem dX5_matches_17 : decode cX5_matches 17 = .ok (.getfield 9, 3) := by decide +kernel
theorem dX5_matches_20 : decode cX5_matches 20 = .ok (.if_icmp .ge 24, 3) := by decide +kernel
theorem dX5_matches_23 : decode cX5_matches 23 = .ok (.aload_n 0, 1) := by decide +kernel
theorem dX5_matches_24 : decode cX5_matches 24 = .ok (.iload_n 2, 1) := by decide +kernel
theorem dX5_matches_25 : decode cX5_matches 25 = .ok (.invokevirtual 19, 3) := by decide +kernel
theorem dX5_matches_28 : decode cX5_matches 28 = .ok (.aload_n 1, 1) := by decide +kernel
theorem dX5_matches_29 : decode cX5_matches 29 = .ok (.iload_n 2, 1) := by decide +kernel
theorem dX5_matches_30 : decode cX5_matches 30 = .ok (.invokevirtual 19, 3) := by decide +kernel
theorem dX5_matches_33 : decode cX5_matches 33 = .ok (.if_icmp .eq 5, 3) := by decide +kernel
theorem dX5_matches_36 : decode cX5_matches 36 = .ok (.iconst 0, 1) := by decide +kernel
theorem dX5_matches_37 : decode cX5_matches 37 = .ok (.ireturn, 1) := by decide +kernel
theorem dX5_matches_38 : decode cX5_matches 38 = .ok (.iinc 2 1, 3) := by decide +kernel
theorem dX5_matches_41 : decode cX5_matches 41 = .ok (.goto (-26), 3) := by decide +kernel
theorem dX5_matches_44 : decode cX5_matches 44 = .ok (.iconst 1, 1) := by decide +kernel
theorem dX5_matches_45 : decode cX5_matches 45 = .ok (.ireturn, 1) := by decide +kernel
abbrev rmX5_matches : Room := { frames := 2, cells := 0, slots := 0, locals := 61 }
noncomputable def fX5_matches_15b (n : Nat) (Sh : Sp) (M : Mm) (a0 : Nat) (a1 : Nat) (v2 : Int32) : Option (Int32 ⊕ Int32) :=
  tI M a0 1 fun x1 =>
  if v2 < x1 then
    (fX5_at n Sh M a0 v2).bind fun r2 =>
    chk (Sh a1 = some (.inl 5)) <|
    (fX5_at n Sh M a1 v2).bind fun r3 =>
    if r2 = r3 then
      some (Sum.inl (v2 + 1))
    else
      some (Sum.inr 0)
  else
    some (Sum.inr 1)
noncomputable def fX5_matches_15 (n : Nat) (Sh : Sp) (M : Mm) (a0 : Nat) (a1 : Nat) (v2 : Int32) : Option Int32 :=
  iter n (fun s => fX5_matches_15b n Sh M a0 a1 s) v2
noncomputable def fX5_matches (n : Nat) (Sh : Sp) (M : Mm) (a0 : Nat) (a1 : Nat) : Option Int32 :=
  tI M a0 1 fun x4 =>
  gI Sh M a1 5 1 fun x5 =>
  if x4 = x5 then
    fX5_matches_15 n Sh M a0 a1 0
  else
    some 0
set_option maxRecDepth 100000 in
set_option maxHeartbeats 4000000 in
theorem kX5_matches {l : Launch} {G : Gt} {n : Nat} {Sh : Sp} {M : Mm} {a0 : Nat} {a1 : Nat} (hT : Sh a0 = some (.inl 5)) {r : Int32} (h : fX5_matches n Sh M a0 a1 = some r) : Ct l yX5_matches cX5_matches 3 (some .boolean) rmX5_matches G Sh M [.ref a0, .ref a1] (some (.int r)) M := by
  refine Ct.of (by decide) (Nat.le_of_ble_eq_true rfl) ?_
  intro p e s m args below meth c ls C hK hX hP hS hb hlk hr hl
  replace hl : lv_has ls 3 [(0, .ref a0), (1, .ref a1)] := hl
  have J15 : ∀ (k : Nat) (v2 : Int32) (H : Heap) (locs : List Loc) (ls : Array Slot), HM G Sh M H → SS G s s.heap.size H locs → lv_has ls 3 [(0, .ref a0), (1, .ref a1), (2, .int v2)] → iter k (fun s => fX5_matches_15b n Sh M a0 a1 s) v2 = some r → W p l e rmX5_matches s m args below meth c H locs 0 0 (MQ below (QG G Sh M (some (.int r))) args s rmX5_matches.cells rmX5_matches.slots (AA G)) (F0 m 15 ls []) := by
    intro k
    induction k with
    | zero => intro v2 H locs ls hP hS hl h; exact (iter_0 h).elim
    | succ k ih1 =>
      intro v2 H locs ls hP hS hl h
      obtain ⟨z1, h, hz1⟩ := iter_some h
      replace h : fX5_matches_15b n Sh M a0 a1 v2 = some z1 := h
      unfold fX5_matches_15b at h
      refine lv_iload_n C.1 C.2.1 dX5_matches_15 rfl (lv_at hl 2 rfl) ?_
      refine lv_aload_n C.1 C.2.1 dX5_matches_16 rfl (lv_at hl 0 rfl) ?_
      refine r_tI C hK hP hT cl_5 (k := 1) (by decide) wd_124 rfl dX5_matches_17 h (fun x1 h => ?_)
      refine b_ige (tgt := 44) C dX5_matches_20 (by decide) h (fun h => ?_) (fun h => ?_)
      · refine lv_aload_n C.1 C.2.1 dX5_matches_23 rfl (lv_at hl 0 rfl) ?_
        refine lv_iload_n C.1 C.2.1 dX5_matches_24 rfl (lv_at hl 2 rfl) ?_
        obtain ⟨r2, hc, h⟩ := bS h
        refine r_V1 C hK hX hb hP hS hl.1 (kX5_at (hT) hc) hT cl_5 wd_482 mo_X5_at wd_483 wd_484 ⟨Nat.le_of_ble_eq_true rfl, Nat.le_of_ble_eq_true rfl⟩ ⟨Nat.le_of_ble_eq_true rfl, Nat.le_of_ble_eq_true rfl⟩ rfl (rest := []) rfl (Nat.le_of_ble_eq_true rfl) dX5_matches_25 (fun H locs hP hS => ?_)
        refine lv_aload_n C.1 C.2.1 dX5_matches_28 rfl (lv_at hl 1 rfl) ?_
        refine lv_iload_n C.1 C.2.1 dX5_matches_29 rfl (lv_at hl 2 rfl) ?_
        obtain ⟨hs, h⟩ := chk_some h
        obtain ⟨r3, hc, h⟩ := bS h
        refine r_V1 C hK hX hb hP hS hl.1 (kX5_at (hs) hc) hs cl_5 wd_482 mo_X5_at wd_483 wd_484 ⟨Nat.le_of_ble_eq_true rfl, Nat.le_of_ble_eq_true rfl⟩ ⟨Nat.le_of_ble_eq_true rfl, Nat.le_of_ble_eq_true rfl⟩ rfl (rest := [.int r2]) rfl (Nat.le_of_ble_eq_true rfl) dX5_matches_30 (fun H locs hP hS => ?_)
        refine b_ieq (tgt := 38) C dX5_matches_33 (by decide) h (fun h => ?_) (fun h => ?_)
        · refine lv_iinc (v := (v2 + 1)) (lv' := [(2, .int (v2 + 1)), (0, .ref a0), (1, .ref a1)]) C.1 C.2.1 dX5_matches_38 hl (k := 2) rfl rfl (by decide) rfl (fun ls hl => ?_)
          refine lv_goto (tgt := 15) C.1 C.2.1 dX5_matches_41 (by decide) ?_
          have e := Option.some.inj h
          rw [← e] at hz1
          exact ih1 ((v2 + 1)) _ _ _ hP hS (lv_sub hl [1, 2, 0] rfl) (itK_inl hz1)
        · refine lv_iconst (v := 0) C.1 C.2.1 dX5_matches_36 (by decide) ?_
          have e := Option.some.inj h
          rw [← e] at hz1
          replace e := itK_inr hz1
          exact q_z C hlk hP hS hr (by decide) (by rw [← e]) rfl dX5_matches_37
      · refine lv_iconst (v := 1) C.1 C.2.1 dX5_matches_44 (by decide) ?_
        have e := Option.some.inj h
        rw [← e] at hz1
        replace e := itK_inr hz1
        exact q_z C hlk hP hS hr (by decide) (by rw [← e]) rfl dX5_matches_45
  unfold fX5_matches at h
  refine lv_aload_n C.1 C.2.1 dX5_matches_0 rfl (lv_at hl 0 rfl) ?_
  refine r_tI C hK hP hT cl_5 (k := 1) (by decide) wd_124 rfl dX5_matches_1 h (fun x4 h => ?_)
  refine lv_aload_n C.1 C.2.1 dX5_matches_4 rfl (lv_at hl 1 rfl) ?_
  refine r_gI C hK hP cl_5 (k := 1) (by decide) wd_124 rfl dX5_matches_5 h (fun x5 h => ?_)
  refine b_ieq (tgt := 13) C dX5_matches_8 (by decide) h (fun h => ?_) (fun h => ?_)
  · refine lv_iconst (v := 0) C.1 C.2.1 dX5_matches_13 (by decide) ?_
    refine lv_istore_n (lv' := [(2, .int 0), (0, .ref a0), (1, .ref a1)]) C.1 C.2.1 dX5_matches_14 rfl hl (by decide) rfl (fun ls hl => ?_)
    exact J15  n (0) _ _ _ hP hS (lv_sub hl [1, 2, 0] rfl) h
  · refine lv_iconst (v := 0) C.1 C.2.1 dX5_matches_11 (by decide) ?_
    have e := Option.some.inj h
    exact q_z C hlk hP hS hr (by decide) (by rw [← e]) rfl dX5_matches_12
theorem dX5_become_0 : decode cX5_become 0 = .ok (.aload_n 0, 1) := by decide +kernel
theorem dX5_become_1 : decode cX5_become 1 = .ok (.aload_n 1, 1) := by decide +kernel
theorem dX5_become_2 : decode cX5_become 2 = .ok (.getfield 9, 3) := by decide +kernel
theorem dX5_become_5 : decode cX5_become 5 = .ok (.aload_n 0, 1) := by decide +kernel
theorem dX5_become_6 : decode cX5_become 6 = .ok (.getfield 15, 3) := by decide +kernel
theorem dX5_become_9 : decode cX5_become 9 = .ok (.arraylength, 1) := by decide +kernel
theorem dX5_become_10 : decode cX5_become 10 = .ok (.invokestatic 23, 3) := by decide +kernel
theorem dX5_become_13 : decode cX5_become 13 = .ok (.putfield 9, 3) := by decide +kernel
theorem dX5_become_16 : decode cX5_become 16 = .ok (.aload_n 1, 1) := by decide +kernel
theorem dX5_become_17 : decode cX5_become 17 = .ok (.getfield 15, 3) := by decide +kernel
theorem dX5_become_20 : decode cX5_become 20 = .ok (.iconst 0, 1) := by decide +kernel
theorem dX5_become_21 : decode cX5_become 21 = .ok (.aload_n 0, 1) := by decide +kernel
theorem dX5_become_22 : decode cX5_become 22 = .ok (.getfield 15, 3) := by decide +kernel
theorem dX5_become_25 : decode cX5_become 25 = .ok (.iconst 0, 1) := by decide +kernel
theorem dX5_become_26 : decode cX5_become 26 = .ok (.aload_n 0, 1) := by decide +kernel
theorem dX5_become_27 : decode cX5_become 27 = .ok (.getfield 9, 3) := by decide +kernel
theorem dX5_become_30 : decode cX5_become 30 = .ok (.invokestatic 29, 3) := by decide +kernel
theorem dX5_become_33 : decode cX5_become 33 = .ok (.return_, 1) := by decide +kernel
abbrev rmX5_become : Room := { frames := 1, cells := 0, slots := 0, locals := 40 }
noncomputable def fX5_become (n : Nat) (Sh : Sp) (M : Mm) (a0 : Nat) (a1 : Nat) : Option Mm :=
  gI Sh M a1 5 1 fun x1 =>
  tF M a0 0 fun b2 =>
  aN Sh b2 fun x3 =>
  qI M a0 1 (imin x1 x3) fun M4 =>
  gF Sh M4 a1 5 0 fun b5 =>
  tF M4 a0 0 fun b6 =>
  tI M4 a0 1 fun x7 =>
  aC Sh M4 1 b5 0 b6 0 x7 fun M8 =>
  some M8
set_option maxRecDepth 100000 in
set_option maxHeartbeats 4000000 in
theorem kX5_become {l : Launch} {G : Gt} {n : Nat} {Sh : Sp} {M : Mm} {a0 : Nat} {a1 : Nat} (hT : Sh a0 = some (.inl 5)) {r : Mm} (h : fX5_become n Sh M a0 a1 = some r) : Ct l yX5_become cX5_become 2 none rmX5_become G Sh M [.ref a0, .ref a1] none r := by
  refine Ct.of (by decide) (Nat.le_of_ble_eq_true rfl) ?_
  intro p e s m args below meth c ls C hK hX hP hS hb hlk hr hl
  replace hl : lv_has ls 2 [(0, .ref a0), (1, .ref a1)] := hl
  unfold fX5_become at h
  refine lv_aload_n C.1 C.2.1 dX5_become_0 rfl (lv_at hl 0 rfl) ?_
  refine lv_aload_n C.1 C.2.1 dX5_become_1 rfl (lv_at hl 1 rfl) ?_
  refine r_gI C hK hP cl_5 (k := 1) (by decide) wd_124 rfl dX5_become_2 h (fun x1 h => ?_)
  refine lv_aload_n C.1 C.2.1 dX5_become_5 rfl (lv_at hl 0 rfl) ?_
  refine r_tF C hK hP hT cl_5 (k := 0) (by decide) wd_123 rfl dX5_become_6 h (fun b2 h => ?_)
  refine r_aN C hK hP dX5_become_9 h (fun x3 h => ?_)
  refine va_mmin C.1 C.2.1 (C.2.2.1.trans hl.1.symm) C.2.2.2.1 (C.2.2.2.2 _ wd_413) (C.2.2.2.2 _ wd_414) (C.2.2.2.2 _ wd_90) (C.2.2.2.2 _ w_minc) (Nat.le_of_ble_eq_true rfl) (Nat.le_of_ble_eq_true rfl) (Nat.le_of_ble_eq_true rfl) (Nat.le_of_ble_eq_true rfl) dX5_become_10 ?_
  refine r_qI C hK hP hS hT cl_5 (k := 1) (by decide) wd_124 rfl rfl (tyX5_ok 1 (by decide)) dX5_become_13 h (fun M4 H locs h hP hS => ?_)
  refine lv_aload_n C.1 C.2.1 dX5_become_16 rfl (lv_at hl 1 rfl) ?_
  refine r_gF C hK hP cl_5 (k := 0) (by decide) wd_123 rfl dX5_become_17 h (fun b5 h => ?_)
  refine lv_iconst (v := 0) C.1 C.2.1 dX5_become_20 (by decide) ?_
  refine lv_aload_n C.1 C.2.1 dX5_become_21 rfl (lv_at hl 0 rfl) ?_
  refine r_tF C hK hP hT cl_5 (k := 0) (by decide) wd_123 rfl dX5_become_22 h (fun b6 h => ?_)
  refine lv_iconst (v := 0) C.1 C.2.1 dX5_become_25 (by decide) ?_
  refine lv_aload_n C.1 C.2.1 dX5_become_26 rfl (lv_at hl 0 rfl) ?_
  refine r_tI C hK hP hT cl_5 (k := 1) (by decide) wd_124 rfl dX5_become_27 h (fun x7 h => ?_)
  refine r_cpy C hK hP hS hl.1 (ti := 1) (by decide) wd_416 w_acn w_acs w_aci (Nat.le_of_ble_eq_true rfl) (Nat.le_of_ble_eq_true rfl) dX5_become_30 h (fun M8 H locs h hP hS => ?_)
  have e := Option.some.inj h
  exact q_v C hlk hP hS hr rfl e.symm dX5_become_33
theorem dX5_join_0 : decode cX5_join 0 = .ok (.aload_n 0, 1) := by decide +kernel
theorem dX5_join_1 : decode cX5_join 1 = .ok (.getfield 9, 3) := by decide +kernel
theorem dX5_join_4 : decode cX5_join 4 = .ok (.ifCond .le 16, 3) := by decide +kernel
theorem dX5_join_7 : decode cX5_join 7 = .ok (.aload_n 1, 1) := by decide +kernel
theorem dX5_join_8 : decode cX5_join 8 = .ok (.getfield 9, 3) := by decide +kernel
theorem dX5_join_11 : decode cX5_join 11 = .ok (.ifCond .le 9, 3) := by decide +kernel
theorem dX5_join_14 : decode cX5_join 14 = .ok (.aload_n 0, 1) := by decide +kernel
theorem dX5_join_15 : decode cX5_join 15 = .ok (.bipush 32, 2) := by decide +kernel
theorem dX5_join_17 : decode cX5_join 17 = .ok (.invokevirtual 35, 3) := by decide +kernel
theorem dX5_join_20 : decode cX5_join 20 = .ok (.iconst 0, 1) := by decide +kernel
theorem dX5_join_21 : decode cX5_join 21 = .ok (.istore_n 2, 1) := by decide +kernel
theorem dX5_join_22 : decode cX5_join 22 = .ok (.iload_n 2, 1) := by decide +kernel
theorem dX5_join_23 : decode cX5_join 23 = .ok (.aload_n 1, 1) := by decide +kernel
theorem dX5_join_24 : decode cX5_join 24 = .ok (.getfield 9, 3) := by decide +kernel
theorem dX5_join_27 : decode cX5_join 27 = .ok (.if_icmp .ge 18, 3) := by decide +kernel
theorem dX5_join_30 : decode cX5_join 30 = .ok (.aload_n 0, 1) := by decide +kernel
theorem dX5_join_31 : decode cX5_join 31 = .ok (.aload_n 1, 1) := by decide +kernel
theorem dX5_join_32 : decode cX5_join 32 = .ok (.iload_n 2, 1) := by decide +kernel
theorem dX5_join_33 : decode cX5_join 33 = .ok (.invokevirtual 19, 3) := by decide +kernel
theorem dX5_join_36 : decode cX5_join 36 = .ok (.invokevirtual 35, 3) := by decide +kernel
theorem dX5_join_39 : decode cX5_join 39 = .ok (.iinc 2 1, 3) := by decide +kernel
theorem dX5_join_42 : decode cX5_join 42 = .ok (.goto (-20), 3) := by decide +kernel
theorem dX5_join_45 : decode cX5_join 45 = .ok (.return_, 1) := by decide +kernel
abbrev rmX5_join : Room := { frames := 2, cells := 0, slots := 0, locals := 61 }
noncomputable def fX5_join_22b (n : Nat) (Sh : Sp) (a0 : Nat) (a1 : Nat) (M : Mm) (v2 : Int32) : Option ((Int32 × Mm) ⊕ Mm) :=
  gI Sh M a1 5 1 fun x1 =>
  if v2 < x1 then
    chk (Sh a1 = some (.inl 5)) <|
    (fX5_at n Sh M a1 v2).bind fun r2 =>
    (fX5_put n Sh M a0 r2).bind fun r3 =>
    some (Sum.inl ((v2 + 1), r3))
  else
    some (Sum.inr M)
noncomputable def fX5_join_22 (n : Nat) (Sh : Sp) (a0 : Nat) (a1 : Nat) (M : Mm) (v2 : Int32) : Option Mm :=
  iter n (fun s => fX5_join_22b n Sh a0 a1 s.2 s.1) (v2, M)
noncomputable def fX5_join_20 (n : Nat) (Sh : Sp) (a0 : Nat) (a1 : Nat) (M : Mm) : Option Mm :=
  fX5_join_22 n Sh a0 a1 M 0
noncomputable def fX5_join (n : Nat) (Sh : Sp) (M : Mm) (a0 : Nat) (a1 : Nat) : Option Mm :=
  tI M a0 1 fun x4 =>
  if x4 ≤ 0 then
    fX5_join_20 n Sh a0 a1 M
  else
    gI Sh M a1 5 1 fun x5 =>
    if x5 ≤ 0 then
      fX5_join_20 n Sh a0 a1 M
    else
      (fX5_put n Sh M a0 32).bind fun r6 =>
      fX5_join_20 n Sh a0 a1 r6
set_option maxRecDepth 100000 in
set_option maxHeartbeats 4000000 in
theorem kX5_join {l : Launch} {G : Gt} {n : Nat} {Sh : Sp} {M : Mm} {a0 : Nat} {a1 : Nat} (hT : Sh a0 = some (.inl 5)) {r : Mm} (h : fX5_join n Sh M a0 a1 = some r) : Ct l yX5_join cX5_join 3 none rmX5_join G Sh M [.ref a0, .ref a1] none r := by
  refine Ct.of (by decide) (Nat.le_of_ble_eq_true rfl) ?_
  intro p e s m args below meth c ls C hK hX hP hS hb hlk hr hl
  replace hl : lv_has ls 3 [(0, .ref a0), (1, .ref a1)] := hl
  have J22 : ∀ (k : Nat) (v2 : Int32) (M : Mm) (H : Heap) (locs : List Loc) (ls : Array Slot), HM G Sh M H → SS G s s.heap.size H locs → lv_has ls 3 [(0, .ref a0), (1, .ref a1), (2, .int v2)] → iter k (fun s => fX5_join_22b n Sh a0 a1 s.2 s.1) (v2, M) = some r → W p l e rmX5_join s m args below meth c H locs 0 0 (MQ below (QG G Sh r none) args s rmX5_join.cells rmX5_join.slots (AA G)) (F0 m 22 ls []) := by
    intro k
    induction k with
    | zero => intro v2 M H locs ls hP hS hl h; exact (iter_0 h).elim
    | succ k ih1 =>
      intro v2 M H locs ls hP hS hl h
      obtain ⟨z1, h, hz1⟩ := iter_some h
      replace h : fX5_join_22b n Sh a0 a1 M v2 = some z1 := h
      unfold fX5_join_22b at h
      refine lv_iload_n C.1 C.2.1 dX5_join_22 rfl (lv_at hl 2 rfl) ?_
      refine lv_aload_n C.1 C.2.1 dX5_join_23 rfl (lv_at hl 1 rfl) ?_
      refine r_gI C hK hP cl_5 (k := 1) (by decide) wd_124 rfl dX5_join_24 h (fun x1 h => ?_)
      refine b_ige (tgt := 45) C dX5_join_27 (by decide) h (fun h => ?_) (fun h => ?_)
      · refine lv_aload_n C.1 C.2.1 dX5_join_30 rfl (lv_at hl 0 rfl) ?_
        refine lv_aload_n C.1 C.2.1 dX5_join_31 rfl (lv_at hl 1 rfl) ?_
        refine lv_iload_n C.1 C.2.1 dX5_join_32 rfl (lv_at hl 2 rfl) ?_
        obtain ⟨hs, h⟩ := chk_some h
        obtain ⟨r2, hc, h⟩ := bS h
        refine r_V1 C hK hX hb hP hS hl.1 (kX5_at (hs) hc) hs cl_5 wd_482 mo_X5_at wd_483 wd_484 ⟨Nat.le_of_ble_eq_true rfl, Nat.le_of_ble_eq_true rfl⟩ ⟨Nat.le_of_ble_eq_true rfl, Nat.le_of_ble_eq_true rfl⟩ rfl (rest := [.ref a0]) rfl (Nat.le_of_ble_eq_true rfl) dX5_join_33 (fun H locs hP hS => ?_)
        obtain ⟨r3, hc, h⟩ := bS h
        refine r_V0 C hK hX hb hP hS hl.1 (kX5_put (hT) hc) hT cl_5 wd_478 mo_X5_put wd_479 wd_480 ⟨Nat.le_of_ble_eq_true rfl, Nat.le_of_ble_eq_true rfl⟩ ⟨Nat.le_of_ble_eq_true rfl, Nat.le_of_ble_eq_true rfl⟩ rfl (rest := []) rfl (Nat.le_of_ble_eq_true rfl) dX5_join_36 (fun H locs hP hS => ?_)
        refine lv_iinc (v := (v2 + 1)) (lv' := [(2, .int (v2 + 1)), (0, .ref a0), (1, .ref a1)]) C.1 C.2.1 dX5_join_39 hl (k := 2) rfl rfl (by decide) rfl (fun ls hl => ?_)
        refine lv_goto (tgt := 22) C.1 C.2.1 dX5_join_42 (by decide) ?_
        have e := Option.some.inj h
        rw [← e] at hz1
        exact ih1 ((v2 + 1)) r3 _ _ _ hP hS (lv_sub hl [1, 2, 0] rfl) (itK_inl hz1)
      · have e := Option.some.inj h
        rw [← e] at hz1
        replace e := itK_inr hz1
        exact q_v C hlk hP hS hr rfl e.symm dX5_join_45
  have J20 : ∀ (M : Mm) (H : Heap) (locs : List Loc) (ls : Array Slot), HM G Sh M H → SS G s s.heap.size H locs → lv_has ls 3 [(0, .ref a0), (1, .ref a1)] → fX5_join_20 n Sh a0 a1 M = some r → W p l e rmX5_join s m args below meth c H locs 0 0 (MQ below (QG G Sh r none) args s rmX5_join.cells rmX5_join.slots (AA G)) (F0 m 20 ls []) := by
    intro M H locs ls hP hS hl h
    unfold fX5_join_20 at h
    refine lv_iconst (v := 0) C.1 C.2.1 dX5_join_20 (by decide) ?_
    refine lv_istore_n (lv' := [(2, .int 0), (0, .ref a0), (1, .ref a1)]) C.1 C.2.1 dX5_join_21 rfl hl (by decide) rfl (fun ls hl => ?_)
    exact J22  n (0) M _ _ _ hP hS (lv_sub hl [1, 2, 0] rfl) h
  unfold fX5_join at h
  refine lv_aload_n C.1 C.2.1 dX5_join_0 rfl (lv_at hl 0 rfl) ?_
  refine r_tI C hK hP hT cl_5 (k := 1) (by decide) wd_124 rfl dX5_join_1 h (fun x4 h => ?_)
  refine b_le (tgt := 20) C dX5_join_4 (by decide) h (fun h => ?_) (fun h => ?_)
  · exact J20 (M) _ _ _ hP hS (lv_sub hl [0, 1] rfl) h
  · refine lv_aload_n C.1 C.2.1 dX5_join_7 rfl (lv_at hl 1 rfl) ?_
    refine r_gI C hK hP cl_5 (k := 1) (by decide) wd_124 rfl dX5_join_8 h (fun x5 h => ?_)
    refine b_le (tgt := 20) C dX5_join_11 (by decide) h (fun h => ?_) (fun h => ?_)
    · exact J20 (M) _ _ _ hP hS (lv_sub hl [0, 1] rfl) h
    · refine lv_aload_n C.1 C.2.1 dX5_join_14 rfl (lv_at hl 0 rfl) ?_
      refine lv_bipush (v := 32) C.1 C.2.1 dX5_join_15 (by decide) ?_
      obtain ⟨r6, hc, h⟩ := bS h
      refine r_V0 C hK hX hb hP hS hl.1 (kX5_put (hT) hc) hT cl_5 wd_478 mo_X5_put wd_479 wd_480 ⟨Nat.le_of_ble_eq_true rfl, Nat.le_of_ble_eq_true rfl⟩ ⟨Nat.le_of_ble_eq_true rfl, Nat.le_of_ble_eq_true rfl⟩ rfl (rest := []) rfl (Nat.le_of_ble_eq_true rfl) dX5_join_17 (fun H locs hP hS => ?_)
      exact J20 (r6) _ _ _ hP hS (lv_sub hl [0, 1] rfl) h
theorem dX5_join__0 : decode cX5_join_ 0 = .ok (.aload_n 0, 1) := by decide +kernel
theorem dX5_join__1 : decode cX5_join_ 1 = .ok (.getfield 9, 3) := by decide +kernel
theorem dX5_join__4 : decode cX5_join_ 4 = .ok (.ifCond .le 16, 3) := by decide +kernel
theorem dX5_join__7 : decode cX5_join_ 7 = .ok (.aload_n 1, 1) := by decide +kernel
theorem dX5_join__8 : decode cX5_join_ 8 = .ok (.invokevirtual 39, 3) := by decide +kernel
theorem dX5_join__11 : decode cX5_join_ 11 = .ok (.ifCond .le 9, 3) := by decide +kernel
theorem dX5_join__14 : decode cX5_join_ 14 = .ok (.aload_n 0, 1) := by decide +kernel
theorem dX5_join__15 : decode cX5_join_ 15 = .ok (.bipush 32, 2) := by decide +kernel
theorem dX5_join__17 : decode cX5_join_ 17 = .ok (.invokevirtual 35, 3) := by decide +kernel
theorem dX5_join__20 : decode cX5_join_ 20 = .ok (.iconst 0, 1) := by decide +kernel
theorem dX5_join__21 : decode cX5_join_ 21 = .ok (.istore_n 2, 1) := by decide +kernel
theorem dX5_join__22 : decode cX5_join_ 22 = .ok (.iload_n 2, 1) := by decide +kernel
theorem dX5_join__23 : decode cX5_join_ 23 = .ok (.aload_n 1, 1) := by decide +kernel
theorem dX5_join__24 : decode cX5_join_ 24 = .ok (.invokevirtual 39, 3) := by decide +kernel
theorem dX5_join__27 : decode cX5_join_ 27 = .ok (.if_icmp .ge 18, 3) := by decide +kernel
theorem dX5_join__30 : decode cX5_join_ 30 = .ok (.aload_n 0, 1) := by decide +kernel
theorem dX5_join__31 : decode cX5_join_ 31 = .ok (.aload_n 1, 1) := by decide +kernel
theorem dX5_join__32 : decode cX5_join_ 32 = .ok (.iload_n 2, 1) := by decide +kernel
theorem dX5_join__33 : decode cX5_join_ 33 = .ok (.invokevirtual 45, 3) := by decide +kernel
theorem dX5_join__36 : decode cX5_join_ 36 = .ok (.invokevirtual 35, 3) := by decide +kernel
theorem dX5_join__39 : decode cX5_join_ 39 = .ok (.iinc 2 1, 3) := by decide +kernel
theorem dX5_join__42 : decode cX5_join_ 42 = .ok (.goto (-20), 3) := by decide +kernel
theorem dX5_join__45 : decode cX5_join_ 45 = .ok (.return_, 1) := by decide +kernel
abbrev rmX5_join_ : Room := { frames := 5, cells := 0, slots := 0, locals := 121 }
noncomputable def fX5_join__22b (n : Nat) (Sh : Sp) (a0 : Nat) (a1 : Nat) (M : Mm) (v2 : Int32) : Option ((Int32 × Mm) ⊕ Mm) :=
  sLen a1 fun x2 =>
  if v2 < x2 then
    sCh a1 v2 fun x4 =>
    (fX5_put n Sh M a0 x4).bind fun r5 =>
    some (Sum.inl ((v2 + 1), r5))
  else
    some (Sum.inr M)
noncomputable def fX5_join__22 (n : Nat) (Sh : Sp) (a0 : Nat) (a1 : Nat) (M : Mm) (v2 : Int32) : Option Mm :=
  iter n (fun s => fX5_join__22b n Sh a0 a1 s.2 s.1) (v2, M)
noncomputable def fX5_join__20 (n : Nat) (Sh : Sp) (a0 : Nat) (a1 : Nat) (M : Mm) : Option Mm :=
  fX5_join__22 n Sh a0 a1 M 0
noncomputable def fX5_join_ (n : Nat) (Sh : Sp) (M : Mm) (a0 : Nat) (a1 : Nat) : Option Mm :=
  tI M a0 1 fun x6 =>
  if x6 ≤ 0 then
    fX5_join__20 n Sh a0 a1 M
  else
    sLen a1 fun x8 =>
    if x8 ≤ 0 then
      fX5_join__20 n Sh a0 a1 M
    else
      (fX5_put n Sh M a0 32).bind fun r9 =>
      fX5_join__20 n Sh a0 a1 r9
set_option maxRecDepth 100000 in
set_option maxHeartbeats 4000000 in
theorem kX5_join_ {l : Launch} {G : Gt} {n : Nat} {Sh : Sp} {M : Mm} {a0 : Nat} {a1 : Nat} (hT : Sh a0 = some (.inl 5)) {r : Mm} (h : fX5_join_ n Sh M a0 a1 = some r) : Ct l yX5_join_ cX5_join_ 3 none rmX5_join_ G Sh M [.ref a0, .ref (G.2.2.2.1 a1)] none r := by
  refine Ct.of (by decide) (Nat.le_of_ble_eq_true rfl) ?_
  intro p e s m args below meth c ls C hK hX hP hS hb hlk hr hl
  replace hl : lv_has ls 3 [(0, .ref a0), (1, .ref (G.2.2.2.1 a1))] := hl
  have J22 : ∀ (k : Nat) (v2 : Int32) (M : Mm) (H : Heap) (locs : List Loc) (ls : Array Slot), HM G Sh M H → SS G s s.heap.size H locs → lv_has ls 3 [(0, .ref a0), (1, .ref (G.2.2.2.1 a1)), (2, .int v2)] → iter k (fun s => fX5_join__22b n Sh a0 a1 s.2 s.1) (v2, M) = some r → W p l e rmX5_join_ s m args below meth c H locs 0 0 (MQ below (QG G Sh r none) args s rmX5_join_.cells rmX5_join_.slots (AA G)) (F0 m 22 ls []) := by
    intro k
    induction k with
    | zero => intro v2 M H locs ls hP hS hl h; exact (iter_0 h).elim
    | succ k ih1 =>
      intro v2 M H locs ls hP hS hl h
      obtain ⟨z1, h, hz1⟩ := iter_some h
      replace h : fX5_join__22b n Sh a0 a1 M v2 = some z1 := h
      unfold fX5_join__22b at h
      refine lv_iload_n C.1 C.2.1 dX5_join__22 rfl (lv_at hl 2 rfl) ?_
      refine lv_aload_n C.1 C.2.1 dX5_join__23 rfl (lv_at hl 1 rfl) ?_
      refine r_sLen (rest := [.int v2]) C hK hX hb hP hS hl.1 wd_512 (Nat.le_of_ble_eq_true rfl) (Nat.le_of_ble_eq_true rfl) (Nat.le_of_ble_eq_true rfl) dX5_join__24 h ⟨Nat.le_of_ble_eq_true rfl, Nat.le_of_ble_eq_true rfl⟩ (fun x2 H locs h hP hS => ?_)
      refine b_ige (tgt := 45) C dX5_join__27 (by decide) h (fun h => ?_) (fun h => ?_)
      · refine lv_aload_n C.1 C.2.1 dX5_join__30 rfl (lv_at hl 0 rfl) ?_
        refine lv_aload_n C.1 C.2.1 dX5_join__31 rfl (lv_at hl 1 rfl) ?_
        refine lv_iload_n C.1 C.2.1 dX5_join__32 rfl (lv_at hl 2 rfl) ?_
        refine r_sCh (rest := [.ref a0]) C hK hX hb hP hS hl.1 wd_522 (Nat.le_of_ble_eq_true rfl) (Nat.le_of_ble_eq_true rfl) (Nat.le_of_ble_eq_true rfl) dX5_join__33 h ⟨Nat.le_of_ble_eq_true rfl, Nat.le_of_ble_eq_true rfl⟩ (fun x4 H locs h hP hS => ?_)
        obtain ⟨r5, hc, h⟩ := bS h
        refine r_V0 C hK hX hb hP hS hl.1 (kX5_put (hT) hc) hT cl_5 wd_478 mo_X5_put wd_479 wd_480 ⟨Nat.le_of_ble_eq_true rfl, Nat.le_of_ble_eq_true rfl⟩ ⟨Nat.le_of_ble_eq_true rfl, Nat.le_of_ble_eq_true rfl⟩ rfl (rest := []) rfl (Nat.le_of_ble_eq_true rfl) dX5_join__36 (fun H locs hP hS => ?_)
        refine lv_iinc (v := (v2 + 1)) (lv' := [(2, .int (v2 + 1)), (0, .ref a0), (1, .ref (G.2.2.2.1 a1))]) C.1 C.2.1 dX5_join__39 hl (k := 2) rfl rfl (by decide) rfl (fun ls hl => ?_)
        refine lv_goto (tgt := 22) C.1 C.2.1 dX5_join__42 (by decide) ?_
        have e := Option.some.inj h
        rw [← e] at hz1
        exact ih1 ((v2 + 1)) r5 _ _ _ hP hS (lv_sub hl [1, 2, 0] rfl) (itK_inl hz1)
      · have e := Option.some.inj h
        rw [← e] at hz1
        replace e := itK_inr hz1
        exact q_v C hlk hP hS hr rfl e.symm dX5_join__45
  have J20 : ∀ (M : Mm) (H : Heap) (locs : List Loc) (ls : Array Slot), HM G Sh M H → SS G s s.heap.size H locs → lv_has ls 3 [(0, .ref a0), (1, .ref (G.2.2.2.1 a1))] → fX5_join__20 n Sh a0 a1 M = some r → W p l e rmX5_join_ s m args below meth c H locs 0 0 (MQ below (QG G Sh r none) args s rmX5_join_.cells rmX5_join_.slots (AA G)) (F0 m 20 ls []) := by
    intro M H locs ls hP hS hl h
    unfold fX5_join__20 at h
    refine lv_iconst (v := 0) C.1 C.2.1 dX5_join__20 (by decide) ?_
    refine lv_istore_n (lv' := [(2, .int 0), (0, .ref a0), (1, .ref (G.2.2.2.1 a1))]) C.1 C.2.1 dX5_join__21 rfl hl (by decide) rfl (fun ls hl => ?_)
    exact J22  n (0) M _ _ _ hP hS (lv_sub hl [1, 2, 0] rfl) h
  unfold fX5_join_ at h
  refine lv_aload_n C.1 C.2.1 dX5_join__0 rfl (lv_at hl 0 rfl) ?_
  refine r_tI C hK hP hT cl_5 (k := 1) (by decide) wd_124 rfl dX5_join__1 h (fun x6 h => ?_)
  refine b_le (tgt := 20) C dX5_join__4 (by decide) h (fun h => ?_) (fun h => ?_)
  · exact J20 (M) _ _ _ hP hS (lv_sub hl [0, 1] rfl) h
  · refine lv_aload_n C.1 C.2.1 dX5_join__7 rfl (lv_at hl 1 rfl) ?_
    refine r_sLen (rest := []) C hK hX hb hP hS hl.1 wd_512 (Nat.le_of_ble_eq_true rfl) (Nat.le_of_ble_eq_true rfl) (Nat.le_of_ble_eq_true rfl) dX5_join__8 h ⟨Nat.le_of_ble_eq_true rfl, Nat.le_of_ble_eq_true rfl⟩ (fun x8 H locs h hP hS => ?_)
    refine b_le (tgt := 20) C dX5_join__11 (by decide) h (fun h => ?_) (fun h => ?_)
    · exact J20 (M) _ _ _ hP hS (lv_sub hl [0, 1] rfl) h
    · refine lv_aload_n C.1 C.2.1 dX5_join__14 rfl (lv_at hl 0 rfl) ?_
      refine lv_bipush (v := 32) C.1 C.2.1 dX5_join__15 (by decide) ?_
      obtain ⟨r9, hc, h⟩ := bS h
      refine r_V0 C hK hX hb hP hS hl.1 (kX5_put (hT) hc) hT cl_5 wd_478 mo_X5_put wd_479 wd_480 ⟨Nat.le_of_ble_eq_true rfl, Nat.le_of_ble_eq_true rfl⟩ ⟨Nat.le_of_ble_eq_true rfl, Nat.le_of_ble_eq_true rfl⟩ rfl (rest := []) rfl (Nat.le_of_ble_eq_true rfl) dX5_join__17 (fun H locs hP hS => ?_)
      exact J20 (r9) _ _ _ hP hS (lv_sub hl [0, 1] rfl) h
theorem dX4_begin_0 : decode cX4_begin 0 = .ok (.iload_n 1, 1) := by decide +kernel
theorem dX4_begin_1 : decode cX4_begin 1 = .ok (.ifCond .lt 9, 3) := by decide +kernel
theorem dX4_begin_4 : decode cX4_begin 4 = .ok (.iload_n 1, 1) := by decide +kernel
theorem dX4_begin_5 : decode cX4_begin 5 = .ok (.bipush 24, 2) := by decide +kernel
theorem dX4_begin_7 : decode cX4_begin 7 = .ok (.if_icmp .lt 4, 3) := by decide +kernel
theorem dX4_begin_10 : decode cX4_begin 10 = .ok (.return_, 1) := by decide +kernel
theorem dX4_begin_11 : decode cX4_begin 11 = .ok (.aload_n 0, 1) := by decide +kernel
theorem dX4_begin_12 : decode cX4_begin 12 = .ok (.getfield 9, 3) := by decide +kernel
theorem dX4_begin_15 : decode cX4_begin 15 = .ok (.iload_n 1, 1) := by decide +kernel
theorem dX4_begin_16 : decode cX4_begin 16 = .ok (.iload_n 2, 1) := by decide +kernel
theorem dX4_begin_17 : decode cX4_begin 17 = .ok (.iastore, 1) := by decide +kernel
theorem dX4_begin_18 : decode cX4_begin 18 = .ok (.aload_n 0, 1) := by decide +kernel
theorem dX4_begin_19 : decode cX4_begin 19 = .ok (.getfield 15, 3) := by decide +kernel
theorem dX4_begin_22 : decode cX4_begin 22 = .ok (.iload_n 1, 1) := by decide +kernel
theorem dX4_begin_23 : decode cX4_begin 23 = .ok (.iconst (-1), 1) := by decide +kernel
theorem dX4_begin_24 : decode cX4_begin 24 = .ok (.iastore, 1) := by decide +kernel
theorem dX4_begin_25 : decode cX4_begin 25 = .ok (.aload_n 0, 1) := by decide +kernel
theorem dX4_begin_26 : decode cX4_begin 26 = .ok (.getfield 18, 3) := by decide +kernel
theorem dX4_begin_29 : decode cX4_begin 29 = .ok (.iload_n 1, 1) := by decide +kernel
theorem dX4_begin_30 : decode cX4_begin 30 = .ok (.iconst 0, 1) := by decide +kernel
theorem dX4_begin_31 : decode cX4_begin 31 = .ok (.iastore, 1) := by decide +kernel
theorem dX4_begin_32 : decode cX4_begin 32 = .ok (.aload_n 0, 1) := by decide +kernel
theorem dX4_begin_33 : decode cX4_begin 33 = .ok (.getfield 24, 3) := by decide +kernel
theorem dX4_begin_36 : decode cX4_begin 36 = .ok (.iload_n 1, 1) := by decide +kernel
theorem dX4_begin_37 : decode cX4_begin 37 = .ok (.iconst (-1), 1) := by decide +kernel
theorem dX4_begin_38 : decode cX4_begin 38 = .ok (.iastore, 1) := by decide +kernel
theorem dX4_begin_39 : decode cX4_begin 39 = .ok (.iconst 0, 1) := by decide +kernel
theorem dX4_begin_40 : decode cX4_begin 40 = .ok (.istore_n 3, 1) := by decide +kernel
theorem dX4_begin_41 : decode cX4_begin 41 = .ok (.iload_n 3, 1) := by decide +kernel
theorem dX4_begin_42 : decode cX4_begin 42 = .ok (.iconst 5, 1) := by decide +kernel
theorem dX4_begin_43 : decode cX4_begin 43 = .ok (.if_icmp .ge 20, 3) := by decide +kernel
theorem dX4_begin_46 : decode cX4_begin 46 = .ok (.aload_n 0, 1) := by decide +kernel
theorem dX4_begin_47 : decode cX4_begin 47 = .ok (.getfield 27, 3) := by decide +kernel
theorem dX4_begin_50 : decode cX4_begin 50 = .ok (.iload_n 1, 1) := by decide +kernel
theorem dX4_begin_51 : decode cX4_begin 51 = .ok (.iconst 5, 1) := by decide +kernel
theorem dX4_begin_52 : decode cX4_begin 52 = .ok (.imul, 1) := by decide +kernel
theorem dX4_begin_53 : decode cX4_begin 53 = .ok (.iload_n 3, 1) := by decide +kernel
theorem dX4_begin_54 : decode cX4_begin 54 = .ok (.iadd, 1) := by decide +kernel
theorem dX4_begin_55 : decode cX4_begin 55 = .ok (.iconst 0, 1) := by decide +kernel
theorem dX4_begin_56 : decode cX4_begin 56 = .ok (.iastore, 1) := by decide +kernel
theorem dX4_begin_57 : decode cX4_begin 57 = .ok (.iinc 3 1, 3) := by decide +kernel
theorem dX4_begin_60 : decode cX4_begin 60 = .ok (.goto (-19), 3) := by decide +kernel
theorem dX4_begin_63 : decode cX4_begin 63 = .ok (.aload_n 0, 1) := by decide +kernel
theorem dX4_begin_64 : decode cX4_begin 64 = .ok (.getfield 32, 3) := by decide +kernel
theorem dX4_begin_67 : decode cX4_begin 67 = .ok (.iload_n 1, 1) := by decide +kernel
theorem dX4_begin_68 : decode cX4_begin 68 = .ok (.aaload, 1) := by decide +kernel
theorem dX4_begin_69 : decode cX4_begin 69 = .ok (.invokevirtual 60, 3) := by decide +kernel
theorem dX4_begin_72 : decode cX4_begin 72 = .ok (.aload_n 0, 1) := by decide +kernel
theorem dX4_begin_73 : decode cX4_begin 73 = .ok (.getfield 36, 3) := by decide +kernel
theorem dX4_begin_76 : decode cX4_begin 76 = .ok (.iload_n 1, 1) := by decide +kernel
theorem dX4_begin_77 : decode cX4_begin 77 = .ok (.aaload, 1) := by decide +kernel
theorem dX4_begin_78 : decode cX4_begin 78 = .ok (.invokevirtual 60, 3) := by decide +kernel
theorem dX4_begin_81 : decode cX4_begin 81 = .ok (.aload_n 0, 1) := by decide +kernel
theorem dX4_begin_82 : decode cX4_begin 82 = .ok (.getfield 39, 3) := by decide +kernel
theorem dX4_begin_85 : decode cX4_begin 85 = .ok (.iload_n 1, 1) := by decide +kernel
theorem dX4_begin_86 : decode cX4_begin 86 = .ok (.iconst 0, 1) := by decide +kernel
theorem dX4_begin_87 : decode cX4_begin 87 = .ok (.iastore, 1) := by decide +kernel
theorem dX4_begin_88 : decode cX4_begin 88 = .ok (.aload_n 0, 1) := by decide +kernel
theorem dX4_begin_89 : decode cX4_begin 89 = .ok (.getfield 46, 3) := by decide +kernel
theorem dX4_begin_92 : decode cX4_begin 92 = .ok (.iload_n 1, 1) := by decide +kernel
theorem dX4_begin_93 : decode cX4_begin 93 = .ok (.iconst (-1), 1) := by decide +kernel
theorem dX4_begin_94 : decode cX4_begin 94 = .ok (.iastore, 1) := by decide +kernel
theorem dX4_begin_95 : decode cX4_begin 95 = .ok (.return_, 1) := by decide +kernel
abbrev rmX4_begin : Room := { frames := 2, cells := 0, slots := 0, locals := 60 }
noncomputable def fX4_begin_63 (n : Nat) (Sh : Sp) (a0 : Nat) (a1 : Int32) (a2 : Int32) (M : Mm) : Option Mm :=
  tF M a0 6 fun b1 =>
  aR Sh M b1 4 a1 fun b2 =>
  chk (Sh b2 = some (.inl 5)) <|
  (fX5_empty n Sh M b2).bind fun r3 =>
  tF r3 a0 7 fun b4 =>
  aR Sh r3 b4 4 a1 fun b5 =>
  chk (Sh b5 = some (.inl 5)) <|
  (fX5_empty n Sh r3 b5).bind fun r6 =>
  tF r6 a0 8 fun b7 =>
  sI Sh r6 b7 a1 0 fun M8 =>
  tF M8 a0 10 fun b9 =>
  sI Sh M8 b9 a1 (-1) fun M10 =>
  some M10
noncomputable def fX4_begin_41b (n : Nat) (Sh : Sp) (a0 : Nat) (a1 : Int32) (a2 : Int32) (M : Mm) (v3 : Int32) : Option ((Int32 × Mm) ⊕ Mm) :=
  if v3 < 5 then
    tF M a0 5 fun b11 =>
    sI Sh M b11 ((a1 * 5) + v3) 0 fun M12 =>
    some (Sum.inl ((v3 + 1), M12))
  else
    (fX4_begin_63 n Sh a0 a1 a2 M).map Sum.inr
noncomputable def fX4_begin_41 (n : Nat) (Sh : Sp) (a0 : Nat) (a1 : Int32) (a2 : Int32) (M : Mm) (v3 : Int32) : Option Mm :=
  iter n (fun s => fX4_begin_41b n Sh a0 a1 a2 s.2 s.1) (v3, M)
noncomputable def fX4_begin (n : Nat) (Sh : Sp) (M : Mm) (a0 : Nat) (a1 : Int32) (a2 : Int32) : Option Mm :=
  if a1 < 0 then
    some M
  else
    if a1 < 24 then
      tF M a0 0 fun b13 =>
      sI Sh M b13 a1 a2 fun M14 =>
      tF M14 a0 1 fun b15 =>
      sI Sh M14 b15 a1 (-1) fun M16 =>
      tF M16 a0 2 fun b17 =>
      sI Sh M16 b17 a1 0 fun M18 =>
      tF M18 a0 4 fun b19 =>
      sI Sh M18 b19 a1 (-1) fun M20 =>
      fX4_begin_41 n Sh a0 a1 a2 M20 0
    else
      some M
set_option maxRecDepth 100000 in
set_option maxHeartbeats 4000000 in
theorem kX4_begin {l : Launch} {G : Gt} {n : Nat} {Sh : Sp} {M : Mm} {a0 : Nat} {a1 : Int32} {a2 : Int32} (hT : Sh a0 = some (.inl 4)) {r : Mm} (h : fX4_begin n Sh M a0 a1 a2 = some r) : Ct l yX4_begin cX4_begin 4 none rmX4_begin G Sh M [.ref a0, .int a1, .int a2] none r := by
  refine Ct.of (by decide) (Nat.le_of_ble_eq_true rfl) ?_
  intro p e s m args below meth c ls C hK hX hP hS hb hlk hr hl
  replace hl : lv_has ls 4 [(0, .ref a0), (1, .int a1), (2, .int a2)] := hl
  have J63 : ∀ (M : Mm) (H : Heap) (locs : List Loc) (ls : Array Slot), HM G Sh M H → SS G s s.heap.size H locs → lv_has ls 4 [(0, .ref a0), (1, .int a1), (2, .int a2)] → fX4_begin_63 n Sh a0 a1 a2 M = some r → W p l e rmX4_begin s m args below meth c H locs 0 0 (MQ below (QG G Sh r none) args s rmX4_begin.cells rmX4_begin.slots (AA G)) (F0 m 63 ls []) := by
    intro M H locs ls hP hS hl h
    unfold fX4_begin_63 at h
    refine lv_aload_n C.1 C.2.1 dX4_begin_63 rfl (lv_at hl 0 rfl) ?_
    refine r_tF C hK hP hT cl_4 (k := 6) (by decide) wd_150 rfl dX4_begin_64 h (fun b1 h => ?_)
    refine lv_iload_n C.1 C.2.1 dX4_begin_67 rfl (lv_at hl 1 rfl) ?_
    refine r_aR4 C hK hP dX4_begin_68 h (fun b2 h => ?_)
    obtain ⟨hs, h⟩ := chk_some h
    obtain ⟨r3, hc, h⟩ := bS h
    refine r_V0 C hK hX hb hP hS hl.1 (kX5_empty (hs) hc) hs cl_5 wd_140 mo_X5_empty wd_141 wd_142 ⟨Nat.le_of_ble_eq_true rfl, Nat.le_of_ble_eq_true rfl⟩ ⟨Nat.le_of_ble_eq_true rfl, Nat.le_of_ble_eq_true rfl⟩ rfl (rest := []) rfl (Nat.le_of_ble_eq_true rfl) dX4_begin_69 (fun H locs hP hS => ?_)
    refine lv_aload_n C.1 C.2.1 dX4_begin_72 rfl (lv_at hl 0 rfl) ?_
    refine r_tF C hK hP hT cl_4 (k := 7) (by decide) wd_151 rfl dX4_begin_73 h (fun b4 h => ?_)
    refine lv_iload_n C.1 C.2.1 dX4_begin_76 rfl (lv_at hl 1 rfl) ?_
    refine r_aR4 C hK hP dX4_begin_77 h (fun b5 h => ?_)
    obtain ⟨hs, h⟩ := chk_some h
    obtain ⟨r6, hc, h⟩ := bS h
    refine r_V0 C hK hX hb hP hS hl.1 (kX5_empty (hs) hc) hs cl_5 wd_140 mo_X5_empty wd_141 wd_142 ⟨Nat.le_of_ble_eq_true rfl, Nat.le_of_ble_eq_true rfl⟩ ⟨Nat.le_of_ble_eq_true rfl, Nat.le_of_ble_eq_true rfl⟩ rfl (rest := []) rfl (Nat.le_of_ble_eq_true rfl) dX4_begin_78 (fun H locs hP hS => ?_)
    refine lv_aload_n C.1 C.2.1 dX4_begin_81 rfl (lv_at hl 0 rfl) ?_
    refine r_tF C hK hP hT cl_4 (k := 8) (by decide) wd_152 rfl dX4_begin_82 h (fun b7 h => ?_)
    refine lv_iload_n C.1 C.2.1 dX4_begin_85 rfl (lv_at hl 1 rfl) ?_
    refine lv_iconst (v := 0) C.1 C.2.1 dX4_begin_86 (by decide) ?_
    refine r_sI C hK hP hS dX4_begin_87 h (fun M8 H locs h hP hS => ?_)
    refine lv_aload_n C.1 C.2.1 dX4_begin_88 rfl (lv_at hl 0 rfl) ?_
    refine r_tF C hK hP hT cl_4 (k := 10) (by decide) wd_154 rfl dX4_begin_89 h (fun b9 h => ?_)
    refine lv_iload_n C.1 C.2.1 dX4_begin_92 rfl (lv_at hl 1 rfl) ?_
    refine lv_iconst (v := (-1)) C.1 C.2.1 dX4_begin_93 (by decide) ?_
    refine r_sI C hK hP hS dX4_begin_94 h (fun M10 H locs h hP hS => ?_)
    have e := Option.some.inj h
    exact q_v C hlk hP hS hr rfl e.symm dX4_begin_95
  have J41 : ∀ (k : Nat) (v3 : Int32) (M : Mm) (H : Heap) (locs : List Loc) (ls : Array Slot), HM G Sh M H → SS G s s.heap.size H locs → lv_has ls 4 [(0, .ref a0), (1, .int a1), (2, .int a2), (3, .int v3)] → iter k (fun s => fX4_begin_41b n Sh a0 a1 a2 s.2 s.1) (v3, M) = some r → W p l e rmX4_begin s m args below meth c H locs 0 0 (MQ below (QG G Sh r none) args s rmX4_begin.cells rmX4_begin.slots (AA G)) (F0 m 41 ls []) := by
    intro k
    induction k with
    | zero => intro v3 M H locs ls hP hS hl h; exact (iter_0 h).elim
    | succ k ih1 =>
      intro v3 M H locs ls hP hS hl h
      obtain ⟨z1, h, hz1⟩ := iter_some h
      replace h : fX4_begin_41b n Sh a0 a1 a2 M v3 = some z1 := h
      unfold fX4_begin_41b at h
      refine lv_iload_n C.1 C.2.1 dX4_begin_41 rfl (lv_at hl 3 rfl) ?_
      refine lv_iconst (v := 5) C.1 C.2.1 dX4_begin_42 (by decide) ?_
      refine b_ige (tgt := 63) C dX4_begin_43 (by decide) h (fun h => ?_) (fun h => ?_)
      · refine lv_aload_n C.1 C.2.1 dX4_begin_46 rfl (lv_at hl 0 rfl) ?_
        refine r_tF C hK hP hT cl_4 (k := 5) (by decide) wd_149 rfl dX4_begin_47 h (fun b11 h => ?_)
        refine lv_iload_n C.1 C.2.1 dX4_begin_50 rfl (lv_at hl 1 rfl) ?_
        refine lv_iconst (v := 5) C.1 C.2.1 dX4_begin_51 (by decide) ?_
        refine lv_imul C.1 C.2.1 dX4_begin_52 ?_
        refine lv_iload_n C.1 C.2.1 dX4_begin_53 rfl (lv_at hl 3 rfl) ?_
        refine lv_iadd C.1 C.2.1 dX4_begin_54 ?_
        refine lv_iconst (v := 0) C.1 C.2.1 dX4_begin_55 (by decide) ?_
        refine r_sI C hK hP hS dX4_begin_56 h (fun M12 H locs h hP hS => ?_)
        refine lv_iinc (v := (v3 + 1)) (lv' := [(3, .int (v3 + 1)), (0, .ref a0), (1, .int a1), (2, .int a2)]) C.1 C.2.1 dX4_begin_57 hl (k := 3) rfl rfl (by decide) rfl (fun ls hl => ?_)
        refine lv_goto (tgt := 41) C.1 C.2.1 dX4_begin_60 (by decide) ?_
        have e := Option.some.inj h
        rw [← e] at hz1
        exact ih1 ((v3 + 1)) M12 _ _ _ hP hS (lv_sub hl [1, 2, 3, 0] rfl) (itK_inl hz1)
      · obtain ⟨w1, h, e⟩ := mS h
        rw [← e] at hz1
        replace e := itK_inr hz1
        rw [e] at h
        exact J63 (M) _ _ _ hP hS (lv_sub hl [0, 1, 2] rfl) h
  unfold fX4_begin at h
  refine lv_iload_n C.1 C.2.1 dX4_begin_0 rfl (lv_at hl 1 rfl) ?_
  refine b_lt (tgt := 10) C dX4_begin_1 (by decide) h (fun h => ?_) (fun h => ?_)
  · have e := Option.some.inj h
    exact q_v C hlk hP hS hr rfl e.symm dX4_begin_10
  · refine lv_iload_n C.1 C.2.1 dX4_begin_4 rfl (lv_at hl 1 rfl) ?_
    refine lv_bipush (v := 24) C.1 C.2.1 dX4_begin_5 (by decide) ?_
    refine b_ilt (tgt := 11) C dX4_begin_7 (by decide) h (fun h => ?_) (fun h => ?_)
    · refine lv_aload_n C.1 C.2.1 dX4_begin_11 rfl (lv_at hl 0 rfl) ?_
      refine r_tF C hK hP hT cl_4 (k := 0) (by decide) wd_144 rfl dX4_begin_12 h (fun b13 h => ?_)
      refine lv_iload_n C.1 C.2.1 dX4_begin_15 rfl (lv_at hl 1 rfl) ?_
      refine lv_iload_n C.1 C.2.1 dX4_begin_16 rfl (lv_at hl 2 rfl) ?_
      refine r_sI C hK hP hS dX4_begin_17 h (fun M14 H locs h hP hS => ?_)
      refine lv_aload_n C.1 C.2.1 dX4_begin_18 rfl (lv_at hl 0 rfl) ?_
      refine r_tF C hK hP hT cl_4 (k := 1) (by decide) wd_145 rfl dX4_begin_19 h (fun b15 h => ?_)
      refine lv_iload_n C.1 C.2.1 dX4_begin_22 rfl (lv_at hl 1 rfl) ?_
      refine lv_iconst (v := (-1)) C.1 C.2.1 dX4_begin_23 (by decide) ?_
      refine r_sI C hK hP hS dX4_begin_24 h (fun M16 H locs h hP hS => ?_)
      refine lv_aload_n C.1 C.2.1 dX4_begin_25 rfl (lv_at hl 0 rfl) ?_
      refine r_tF C hK hP hT cl_4 (k := 2) (by decide) wd_146 rfl dX4_begin_26 h (fun b17 h => ?_)
      refine lv_iload_n C.1 C.2.1 dX4_begin_29 rfl (lv_at hl 1 rfl) ?_
      refine lv_iconst (v := 0) C.1 C.2.1 dX4_begin_30 (by decide) ?_
      refine r_sI C hK hP hS dX4_begin_31 h (fun M18 H locs h hP hS => ?_)
      refine lv_aload_n C.1 C.2.1 dX4_begin_32 rfl (lv_at hl 0 rfl) ?_
      refine r_tF C hK hP hT cl_4 (k := 4) (by decide) wd_148 rfl dX4_begin_33 h (fun b19 h => ?_)
      refine lv_iload_n C.1 C.2.1 dX4_begin_36 rfl (lv_at hl 1 rfl) ?_
      refine lv_iconst (v := (-1)) C.1 C.2.1 dX4_begin_37 (by decide) ?_
      refine r_sI C hK hP hS dX4_begin_38 h (fun M20 H locs h hP hS => ?_)
      refine lv_iconst (v := 0) C.1 C.2.1 dX4_begin_39 (by decide) ?_
      refine lv_istore_n (lv' := [(3, .int 0), (0, .ref a0), (1, .int a1), (2, .int a2)]) C.1 C.2.1 dX4_begin_40 rfl hl (by decide) rfl (fun ls hl => ?_)
      exact J41  n (0) M20 _ _ _ hP hS (lv_sub hl [1, 2, 3, 0] rfl) h
    · have e := Option.some.inj h
      exact q_v C hlk hP hS hr rfl e.symm dX4_begin_10
theorem dX4_copyFrom_0 : decode cX4_copyFrom 0 = .ok (.aload_n 1, 1) := by decide +kernel
theorem dX4_copyFrom_1 : decode cX4_copyFrom 1 = .ok (.getfield 9, 3) := by decide +kernel
theorem dX4_copyFrom_4 : decode cX4_copyFrom 4 = .ok (.iconst 0, 1) := by decide +kernel
theorem dX4_copyFrom_5 : decode cX4_copyFrom 5 = .ok (.aload_n 0, 1) := by decide +kernel
theorem dX4_copyFrom_6 : decode cX4_copyFrom 6 = .ok (.getfield 9, 3) := by decide +kernel
theorem dX4_copyFrom_9 : decode cX4_copyFrom 9 = .ok (.iconst 0, 1) := by decide +kernel
theorem dX4_copyFrom_10 : decode cX4_copyFrom 10 = .ok (.bipush 24, 2) := by decide +kernel
theorem dX4_copyFrom_12 : decode cX4_copyFrom 12 = .ok (.invokestatic 63, 3) := by decide +kernel
theorem dX4_copyFrom_15 : decode cX4_copyFrom 15 = .ok (.aload_n 1, 1) := by decide +kernel
theorem dX4_copyFrom_16 : decode cX4_copyFrom 16 = .ok (.getfield 15, 3) := by decide +kernel
theorem dX4_copyFrom_19 : decode cX4_copyFrom 19 = .ok (.iconst 0, 1) := by decide +kernel
theorem dX4_copyFrom_20 : decode cX4_copyFrom 20 = .ok (.aload_n 0, 1) := by decide +kernel
theorem dX4_copyFrom_21 : decode cX4_copyFrom 21 = .ok (.getfield 15, 3) := by decide +kernel
theorem dX4_copyFrom_24 : decode cX4_copyFrom 24 = .ok (.iconst 0, 1) := by decide +kernel
theorem dX4_copyFrom_25 : decode cX4_copyFrom 25 = .ok (.bipush 24, 2) := by decide +kernel
theorem dX4_copyFrom_27 : decode cX4_copyFrom 27 = .ok (.invokestatic 63, 3) := by decide +kernel
theorem dX4_copyFrom_30 : decode cX4_copyFrom 30 = .ok (.aload_n 1, 1) := by decide +kernel
theorem dX4_copyFrom_31 : decode cX4_copyFrom 31 = .ok (.getfield 18, 3) := by decide +kernel
theorem dX4_copyFrom_34 : decode cX4_copyFrom 34 = .ok (.iconst 0, 1) := by decide +kernel
theorem dX4_copyFrom_35 : decode cX4_copyFrom 35 = .ok (.aload_n 0, 1) := by decide +kernel
theorem dX4_copyFrom_36 : decode cX4_copyFrom 36 = .ok (.getfield 18, 3) := by decide +kernel
theorem dX4_copyFrom_39 : decode cX4_copyFrom 39 = .ok (.iconst 0, 1) := by decide +kernel
theorem dX4_copyFrom_40 : decode cX4_copyFrom 40 = .ok (.bipush 24, 2) := by decide +kernel
theorem dX4_copyFrom_42 : decode cX4_copyFrom 42 = .ok (.invokestatic 63, 3) := by decide +kernel
theorem dX4_copyFrom_45 : decode cX4_copyFrom 45 = .ok (.aload_n 1, 1) := by decide +kernel
theorem dX4_copyFrom_46 : decode cX4_copyFrom 46 = .ok (.getfield 21, 3) := by decide +kernel
theorem dX4_copyFrom_49 : decode cX4_copyFrom 49 = .ok (.iconst 0, 1) := by decide +kernel
theorem dX4_copyFrom_50 : decode cX4_copyFrom 50 = .ok (.aload_n 0, 1) := by decide +kernel
theorem dX4_copyFrom_51 : decode cX4_copyFrom 51 = .ok (.getfield 21, 3) := by decide +kernel
theorem dX4_copyFrom_54 : decode cX4_copyFrom 54 = .ok (.iconst 0, 1) := by decide +kernel
theorem dX4_copyFrom_55 : decode cX4_copyFrom 55 = .ok (.aload_n 0, 1) := by decide +kernel
theorem dX4_copyFrom_56 : decode cX4_copyFrom 56 = .ok (.getfield 21, 3) := by decide +kernel
theorem dX4_copyFrom_59 : decode cX4_copyFrom 59 = .ok (.arraylength, 1) := by decide +kernel
theorem dX4_copyFrom_60 : decode cX4_copyFrom 60 = .ok (.invokestatic 63, 3) := by decide +kernel
theorem dX4_copyFrom_63 : decode cX4_copyFrom 63 = .ok (.aload_n 1, 1) := by decide +kernel
theorem dX4_copyFrom_64 : decode cX4_copyFrom 64 = .ok (.getfield 24, 3) := by decide +kernel
theorem dX4_copyFrom_67 : decode cX4_copyFrom 67 = .ok (.iconst 0, 1) := by decide +kernel
theorem dX4_copyFrom_68 : decode cX4_copyFrom 68 = .ok (.aload_n 0, 1) := by decide +kernel
theorem dX4_copyFrom_69 : decode cX4_copyFrom 69 = .ok (.getfield 24, 3) := by decide +kernel
theorem dX4_copyFrom_72 : decode cX4_copyFrom 72 = .ok (.iconst 0, 1) := by decide +kernel
theorem dX4_copyFrom_73 : decode cX4_copyFrom 73 = .ok (.bipush 24, 2) := by decide +kernel
theorem dX4_copyFrom_75 : decode cX4_copyFrom 75 = .ok (.invokestatic 63, 3) := by decide +kernel
theorem dX4_copyFrom_78 : decode cX4_copyFrom 78 = .ok (.aload_n 1, 1) := by decide +kernel
theorem dX4_copyFrom_79 : decode cX4_copyFrom 79 = .ok (.getfield 27, 3) := by decide +kernel
theorem dX4_copyFrom_82 : decode cX4_copyFrom 82 = .ok (.iconst 0, 1) := by decide +kernel
theorem dX4_copyFrom_83 : decode cX4_copyFrom 83 = .ok (.aload_n 0, 1) := by decide +kernel
theorem dX4_copyFrom_84 : decode cX4_copyFrom 84 = .ok (.getfield 27, 3) := by decide +kernel
theorem dX4_copyFrom_87 : decode cX4_copyFrom 87 = .ok (.iconst 0, 1) := by decide +kernel
theorem dX4_copyFrom_88 : decode cX4_copyFrom 88 = .ok (.aload_n 0, 1) := by decide +kernel
theorem dX4_copyFrom_89 : decode cX4_copyFrom 89 = .ok (.getfield 27, 3) := by decide +kernel
theorem dX4_copyFrom_92 : decode cX4_copyFrom 92 = .ok (.arraylength, 1) := by decide +kernel
theorem dX4_copyFrom_93 : decode cX4_copyFrom 93 = .ok (.invokestatic 63, 3) := by decide +kernel
theorem dX4_copyFrom_96 : decode cX4_copyFrom 96 = .ok (.aload_n 1, 1) := by decide +kernel
theorem dX4_copyFrom_97 : decode cX4_copyFrom 97 = .ok (.getfield 39, 3) := by decide +kernel
theorem dX4_copyFrom_100 : decode cX4_copyFrom 100 = .ok (.iconst 0, 1) := by decide +kernel
theorem dX4_copyFrom_101 : decode cX4_copyFrom 101 = .ok (.aload_n 0, 1) := by decide +kernel
theorem dX4_copyFrom_102 : decode cX4_copyFrom 102 = .ok (.getfield 39, 3) := by decide +kernel
theorem dX4_copyFrom_105 : decode cX4_copyFrom 105 = .ok (.iconst 0, 1) := by decide +kernel
theorem dX4_copyFrom_106 : decode cX4_copyFrom 106 = .ok (.bipush 24, 2) := by decide +kernel
theorem dX4_copyFrom_108 : decode cX4_copyFrom 108 = .ok (.invokestatic 63, 3) := by decide +kernel
theorem dX4_copyFrom_111 : decode cX4_copyFrom 111 = .ok (.aload_n 1, 1) := by decide +kernel
theorem dX4_copyFrom_112 : decode cX4_copyFrom 112 = .ok (.getfield 46, 3) := by decide +kernel
theorem dX4_copyFrom_115 : decode cX4_copyFrom 115 = .ok (.iconst 0, 1) := by decide +kernel
theorem dX4_copyFrom_116 : decode cX4_copyFrom 116 = .ok (.aload_n 0, 1) := by decide +kernel
theorem dX4_copyFrom_117 : decode cX4_copyFrom 117 = .ok (.getfield 46, 3) := by decide +kernel
theorem dX4_copyFrom_120 : decode cX4_copyFrom 120 = .ok (.iconst 0, 1) := by decide +kernel
theorem dX4_copyFrom_121 : decode cX4_copyFrom 121 = .ok (.bipush 24, 2) := by decide +kernel
theorem dX4_copyFrom_123 : decode cX4_copyFrom 123 = .ok (.invokestatic 63, 3) := by decide +kernel
theorem dX4_copyFrom_126 : decode cX4_copyFrom 126 = .ok (.aload_n 0, 1) := by decide +kernel
theorem dX4_copyFrom_127 : decode cX4_copyFrom 127 = .ok (.aload_n 1, 1) := by decide +kernel
theorem dX4_copyFrom_128 : decode cX4_copyFrom 128 = .ok (.getfield 42, 3) := by decide +kernel
theorem dX4_copyFrom_131 : decode cX4_copyFrom 131 = .ok (.putfield 42, 3) := by decide +kernel
theorem dX4_copyFrom_134 : decode cX4_copyFrom 134 = .ok (.iconst 0, 1) := by decide +kernel
theorem dX4_copyFrom_135 : decode cX4_copyFrom 135 = .ok (.istore_n 2, 1) := by decide +kernel
theorem dX4_copyFrom_136 : decode cX4_copyFrom 136 = .ok (.iload_n 2, 1) := by decide +kernel
theorem dX4_copyFrom_137 : decode cX4_copyFrom 137 = .ok (.bipush 24, 2) := by decide +kernel
theorem dX4_copyFrom_139 : decode cX4_copyFrom 139 = .ok (.if_icmp .ge 39, 3) := by decide +kernel
theorem dX4_copyFrom_142 : decode cX4_copyFrom 142 = .ok (.aload_n 0, 1) := by decide +kernel
theorem dX4_copyFrom_143 : decode cX4_copyFrom 143 = .ok (.getfield 32, 3) := by decide +kernel
theorem dX4_copyFrom_146 : decode cX4_copyFrom 146 = .ok (.iload_n 2, 1) := by decide +kernel
theorem dX4_copyFrom_147 : decode cX4_copyFrom 147 = .ok (.aaload, 1) := by decide +kernel
theorem dX4_copyFrom_148 : decode cX4_copyFrom 148 = .ok (.aload_n 1, 1) := by decide +kernel
theorem dX4_copyFrom_149 : decode cX4_copyFrom 149 = .ok (.getfield 32, 3) := by decide +kernel
theorem dX4_copyFrom_152 : decode cX4_copyFrom 152 = .ok (.iload_n 2, 1) := by decide +kernel
theorem dX4_copyFrom_153 : decode cX4_copyFrom 153 = .ok (.aaload, 1) := by decide +kernel
theorem dX4_copyFrom_154 : decode cX4_copyFrom 154 = .ok (.invokevirtual 69, 3) := by decide +kernel
theorem dX4_copyFrom_157 : decode cX4_copyFrom 157 = .ok (.aload_n 0, 1) := by decide +kernel
theorem dX4_copyFrom_158 : decode cX4_copyFrom 158 = .ok (.getfield 36, 3) := by decide +kernel
theorem dX4_copyFrom_161 : decode cX4_copyFrom 161 = .ok (.iload_n 2, 1) := by decide +kernel
theorem dX4_copyFrom_162 : decode cX4_copyFrom 162 = .ok (.aaload, 1) := by decide +kernel
theorem dX4_copyFrom_163 : decode cX4_copyFrom 163 = .ok (.aload_n 1, 1) := by decide +kernel
theorem dX4_copyFrom_164 : decode cX4_copyFrom 164 = .ok (.getfield 36, 3) := by decide +kernel
theorem dX4_copyFrom_167 : decode cX4_copyFrom 167 = .ok (.iload_n 2, 1) := by decide +kernel
theorem dX4_copyFrom_168 : decode cX4_copyFrom 168 = .ok (.aaload, 1) := by decide +kernel
theorem dX4_copyFrom_169 : decode cX4_copyFrom 169 = .ok (.invokevirtual 69, 3) := by decide +kernel
theorem dX4_copyFrom_172 : decode cX4_copyFrom 172 = .ok (.iinc 2 1, 3) := by decide +kernel
theorem dX4_copyFrom_175 : decode cX4_copyFrom 175 = .ok (.goto (-39), 3) := by decide +kernel
theorem dX4_copyFrom_178 : decode cX4_copyFrom 178 = .ok (.return_, 1) := by decide +kernel
abbrev rmX4_copyFrom : Room := { frames := 2, cells := 0, slots := 0, locals := 61 }
noncomputable def fX4_copyFrom_136b (n : Nat) (Sh : Sp) (a0 : Nat) (a1 : Nat) (M : Mm) (v2 : Int32) : Option ((Int32 × Mm) ⊕ Mm) :=
  if v2 < 24 then
    tF M a0 6 fun b1 =>
    aR Sh M b1 4 v2 fun b2 =>
    gF Sh M a1 4 6 fun b3 =>
    aR Sh M b3 4 v2 fun b4 =>
    chk (Sh b2 = some (.inl 5)) <|
    (fX5_become n Sh M b2 b4).bind fun r5 =>
    tF r5 a0 7 fun b6 =>
    aR Sh r5 b6 4 v2 fun b7 =>
    gF Sh r5 a1 4 7 fun b8 =>
    aR Sh r5 b8 4 v2 fun b9 =>
    chk (Sh b7 = some (.inl 5)) <|
    (fX5_become n Sh r5 b7 b9).bind fun r10 =>
    some (Sum.inl ((v2 + 1), r10))
  else
    some (Sum.inr M)
noncomputable def fX4_copyFrom_136 (n : Nat) (Sh : Sp) (a0 : Nat) (a1 : Nat) (M : Mm) (v2 : Int32) : Option Mm :=
  iter n (fun s => fX4_copyFrom_136b n Sh a0 a1 s.2 s.1) (v2, M)
noncomputable def fX4_copyFrom (n : Nat) (Sh : Sp) (M : Mm) (a0 : Nat) (a1 : Nat) : Option Mm :=
  gF Sh M a1 4 0 fun b11 =>
  tF M a0 0 fun b12 =>
  aC Sh M 0 b11 0 b12 0 24 fun M13 =>
  gF Sh M13 a1 4 1 fun b14 =>
  tF M13 a0 1 fun b15 =>
  aC Sh M13 0 b14 0 b15 0 24 fun M16 =>
  gF Sh M16 a1 4 2 fun b17 =>
  tF M16 a0 2 fun b18 =>
  aC Sh M16 0 b17 0 b18 0 24 fun M19 =>
  gF Sh M19 a1 4 3 fun b20 =>
  tF M19 a0 3 fun b21 =>
  tF M19 a0 3 fun b22 =>
  aN Sh b22 fun x23 =>
  aC Sh M19 0 b20 0 b21 0 x23 fun M24 =>
  gF Sh M24 a1 4 4 fun b25 =>
  tF M24 a0 4 fun b26 =>
  aC Sh M24 0 b25 0 b26 0 24 fun M27 =>
  gF Sh M27 a1 4 5 fun b28 =>
  tF M27 a0 5 fun b29 =>
  tF M27 a0 5 fun b30 =>
  aN Sh b30 fun x31 =>
  aC Sh M27 0 b28 0 b29 0 x31 fun M32 =>
  gF Sh M32 a1 4 8 fun b33 =>
  tF M32 a0 8 fun b34 =>
  aC Sh M32 0 b33 0 b34 0 24 fun M35 =>
  gF Sh M35 a1 4 10 fun b36 =>
  tF M35 a0 10 fun b37 =>
  aC Sh M35 0 b36 0 b37 0 24 fun M38 =>
  gI Sh M38 a1 4 9 fun x39 =>
  qI M38 a0 9 x39 fun M40 =>
  fX4_copyFrom_136 n Sh a0 a1 M40 0
set_option maxRecDepth 100000 in
set_option maxHeartbeats 4000000 in
theorem kX4_copyFrom {l : Launch} {G : Gt} {n : Nat} {Sh : Sp} {M : Mm} {a0 : Nat} {a1 : Nat} (hT : Sh a0 = some (.inl 4)) {r : Mm} (h : fX4_copyFrom n Sh M a0 a1 = some r) : Ct l yX4_copyFrom cX4_copyFrom 3 none rmX4_copyFrom G Sh M [.ref a0, .ref a1] none r := by
  refine Ct.of (by decide) (Nat.le_of_ble_eq_true rfl) ?_
  intro p e s m args below meth c ls C hK hX hP hS hb hlk hr hl
  replace hl : lv_has ls 3 [(0, .ref a0), (1, .ref a1)] := hl
  have J136 : ∀ (k : Nat) (v2 : Int32) (M : Mm) (H : Heap) (locs : List Loc) (ls : Array Slot), HM G Sh M H → SS G s s.heap.size H locs → lv_has ls 3 [(0, .ref a0), (1, .ref a1), (2, .int v2)] → iter k (fun s => fX4_copyFrom_136b n Sh a0 a1 s.2 s.1) (v2, M) = some r → W p l e rmX4_copyFrom s m args below meth c H locs 0 0 (MQ below (QG G Sh r none) args s rmX4_copyFrom.cells rmX4_copyFrom.slots (AA G)) (F0 m 136 ls []) := by
    intro k
    induction k with
    | zero => intro v2 M H locs ls hP hS hl h; exact (iter_0 h).elim
    | succ k ih1 =>
      intro v2 M H locs ls hP hS hl h
      obtain ⟨z1, h, hz1⟩ := iter_some h
      replace h : fX4_copyFrom_136b n Sh a0 a1 M v2 = some z1 := h
      unfold fX4_copyFrom_136b at h
      refine lv_iload_n C.1 C.2.1 dX4_copyFrom_136 rfl (lv_at hl 2 rfl) ?_
      refine lv_bipush (v := 24) C.1 C.2.1 dX4_copyFrom_137 (by decide) ?_
      refine b_ige (tgt := 178) C dX4_copyFrom_139 (by decide) h (fun h => ?_) (fun h => ?_)
      · refine lv_aload_n C.1 C.2.1 dX4_copyFrom_142 rfl (lv_at hl 0 rfl) ?_
        refine r_tF C hK hP hT cl_4 (k := 6) (by decide) wd_150 rfl dX4_copyFrom_143 h (fun b1 h => ?_)
        refine lv_iload_n C.1 C.2.1 dX4_copyFrom_146 rfl (lv_at hl 2 rfl) ?_
        refine r_aR4 C hK hP dX4_copyFrom_147 h (fun b2 h => ?_)
        refine lv_aload_n C.1 C.2.1 dX4_copyFrom_148 rfl (lv_at hl 1 rfl) ?_
        refine r_gF C hK hP cl_4 (k := 6) (by decide) wd_150 rfl dX4_copyFrom_149 h (fun b3 h => ?_)
        refine lv_iload_n C.1 C.2.1 dX4_copyFrom_152 rfl (lv_at hl 2 rfl) ?_
        refine r_aR4 C hK hP dX4_copyFrom_153 h (fun b4 h => ?_)
        obtain ⟨hs, h⟩ := chk_some h
        obtain ⟨r5, hc, h⟩ := bS h
        refine r_V0 C hK hX hb hP hS hl.1 (kX5_become (hs) hc) hs cl_5 wd_409 mo_X5_become wd_410 wd_411 ⟨Nat.le_of_ble_eq_true rfl, Nat.le_of_ble_eq_true rfl⟩ ⟨Nat.le_of_ble_eq_true rfl, Nat.le_of_ble_eq_true rfl⟩ rfl (rest := []) rfl (Nat.le_of_ble_eq_true rfl) dX4_copyFrom_154 (fun H locs hP hS => ?_)
        refine lv_aload_n C.1 C.2.1 dX4_copyFrom_157 rfl (lv_at hl 0 rfl) ?_
        refine r_tF C hK hP hT cl_4 (k := 7) (by decide) wd_151 rfl dX4_copyFrom_158 h (fun b6 h => ?_)
        refine lv_iload_n C.1 C.2.1 dX4_copyFrom_161 rfl (lv_at hl 2 rfl) ?_
        refine r_aR4 C hK hP dX4_copyFrom_162 h (fun b7 h => ?_)
        refine lv_aload_n C.1 C.2.1 dX4_copyFrom_163 rfl (lv_at hl 1 rfl) ?_
        refine r_gF C hK hP cl_4 (k := 7) (by decide) wd_151 rfl dX4_copyFrom_164 h (fun b8 h => ?_)
        refine lv_iload_n C.1 C.2.1 dX4_copyFrom_167 rfl (lv_at hl 2 rfl) ?_
        refine r_aR4 C hK hP dX4_copyFrom_168 h (fun b9 h => ?_)
        obtain ⟨hs, h⟩ := chk_some h
        obtain ⟨r10, hc, h⟩ := bS h
        refine r_V0 C hK hX hb hP hS hl.1 (kX5_become (hs) hc) hs cl_5 wd_409 mo_X5_become wd_410 wd_411 ⟨Nat.le_of_ble_eq_true rfl, Nat.le_of_ble_eq_true rfl⟩ ⟨Nat.le_of_ble_eq_true rfl, Nat.le_of_ble_eq_true rfl⟩ rfl (rest := []) rfl (Nat.le_of_ble_eq_true rfl) dX4_copyFrom_169 (fun H locs hP hS => ?_)
        refine lv_iinc (v := (v2 + 1)) (lv' := [(2, .int (v2 + 1)), (0, .ref a0), (1, .ref a1)]) C.1 C.2.1 dX4_copyFrom_172 hl (k := 2) rfl rfl (by decide) rfl (fun ls hl => ?_)
        refine lv_goto (tgt := 136) C.1 C.2.1 dX4_copyFrom_175 (by decide) ?_
        have e := Option.some.inj h
        rw [← e] at hz1
        exact ih1 ((v2 + 1)) r10 _ _ _ hP hS (lv_sub hl [1, 2, 0] rfl) (itK_inl hz1)
      · have e := Option.some.inj h
        rw [← e] at hz1
        replace e := itK_inr hz1
        exact q_v C hlk hP hS hr rfl e.symm dX4_copyFrom_178
  unfold fX4_copyFrom at h
  refine lv_aload_n C.1 C.2.1 dX4_copyFrom_0 rfl (lv_at hl 1 rfl) ?_
  refine r_gF C hK hP cl_4 (k := 0) (by decide) wd_144 rfl dX4_copyFrom_1 h (fun b11 h => ?_)
  refine lv_iconst (v := 0) C.1 C.2.1 dX4_copyFrom_4 (by decide) ?_
  refine lv_aload_n C.1 C.2.1 dX4_copyFrom_5 rfl (lv_at hl 0 rfl) ?_
  refine r_tF C hK hP hT cl_4 (k := 0) (by decide) wd_144 rfl dX4_copyFrom_6 h (fun b12 h => ?_)
  refine lv_iconst (v := 0) C.1 C.2.1 dX4_copyFrom_9 (by decide) ?_
  refine lv_bipush (v := 24) C.1 C.2.1 dX4_copyFrom_10 (by decide) ?_
  refine r_cpy C hK hP hS hl.1 (ti := 0) (by decide) wd_406 w_acn w_acs w_aci (Nat.le_of_ble_eq_true rfl) (Nat.le_of_ble_eq_true rfl) dX4_copyFrom_12 h (fun M13 H locs h hP hS => ?_)
  refine lv_aload_n C.1 C.2.1 dX4_copyFrom_15 rfl (lv_at hl 1 rfl) ?_
  refine r_gF C hK hP cl_4 (k := 1) (by decide) wd_145 rfl dX4_copyFrom_16 h (fun b14 h => ?_)
  refine lv_iconst (v := 0) C.1 C.2.1 dX4_copyFrom_19 (by decide) ?_
  refine lv_aload_n C.1 C.2.1 dX4_copyFrom_20 rfl (lv_at hl 0 rfl) ?_
  refine r_tF C hK hP hT cl_4 (k := 1) (by decide) wd_145 rfl dX4_copyFrom_21 h (fun b15 h => ?_)
  refine lv_iconst (v := 0) C.1 C.2.1 dX4_copyFrom_24 (by decide) ?_
  refine lv_bipush (v := 24) C.1 C.2.1 dX4_copyFrom_25 (by decide) ?_
  refine r_cpy C hK hP hS hl.1 (ti := 0) (by decide) wd_406 w_acn w_acs w_aci (Nat.le_of_ble_eq_true rfl) (Nat.le_of_ble_eq_true rfl) dX4_copyFrom_27 h (fun M16 H locs h hP hS => ?_)
  refine lv_aload_n C.1 C.2.1 dX4_copyFrom_30 rfl (lv_at hl 1 rfl) ?_
  refine r_gF C hK hP cl_4 (k := 2) (by decide) wd_146 rfl dX4_copyFrom_31 h (fun b17 h => ?_)
  refine lv_iconst (v := 0) C.1 C.2.1 dX4_copyFrom_34 (by decide) ?_
  refine lv_aload_n C.1 C.2.1 dX4_copyFrom_35 rfl (lv_at hl 0 rfl) ?_
  refine r_tF C hK hP hT cl_4 (k := 2) (by decide) wd_146 rfl dX4_copyFrom_36 h (fun b18 h => ?_)
  refine lv_iconst (v := 0) C.1 C.2.1 dX4_copyFrom_39 (by decide) ?_
  refine lv_bipush (v := 24) C.1 C.2.1 dX4_copyFrom_40 (by decide) ?_
  refine r_cpy C hK hP hS hl.1 (ti := 0) (by decide) wd_406 w_acn w_acs w_aci (Nat.le_of_ble_eq_true rfl) (Nat.le_of_ble_eq_true rfl) dX4_copyFrom_42 h (fun M19 H locs h hP hS => ?_)
  refine lv_aload_n C.1 C.2.1 dX4_copyFrom_45 rfl (lv_at hl 1 rfl) ?_
  refine r_gF C hK hP cl_4 (k := 3) (by decide) wd_147 rfl dX4_copyFrom_46 h (fun b20 h => ?_)
  refine lv_iconst (v := 0) C.1 C.2.1 dX4_copyFrom_49 (by decide) ?_
  refine lv_aload_n C.1 C.2.1 dX4_copyFrom_50 rfl (lv_at hl 0 rfl) ?_
  refine r_tF C hK hP hT cl_4 (k := 3) (by decide) wd_147 rfl dX4_copyFrom_51 h (fun b21 h => ?_)
  refine lv_iconst (v := 0) C.1 C.2.1 dX4_copyFrom_54 (by decide) ?_
  refine lv_aload_n C.1 C.2.1 dX4_copyFrom_55 rfl (lv_at hl 0 rfl) ?_
  refine r_tF C hK hP hT cl_4 (k := 3) (by decide) wd_147 rfl dX4_copyFrom_56 h (fun b22 h => ?_)
  refine r_aN C hK hP dX4_copyFrom_59 h (fun x23 h => ?_)
  refine r_cpy C hK hP hS hl.1 (ti := 0) (by decide) wd_406 w_acn w_acs w_aci (Nat.le_of_ble_eq_true rfl) (Nat.le_of_ble_eq_true rfl) dX4_copyFrom_60 h (fun M24 H locs h hP hS => ?_)
  refine lv_aload_n C.1 C.2.1 dX4_copyFrom_63 rfl (lv_at hl 1 rfl) ?_
  refine r_gF C hK hP cl_4 (k := 4) (by decide) wd_148 rfl dX4_copyFrom_64 h (fun b25 h => ?_)
  refine lv_iconst (v := 0) C.1 C.2.1 dX4_copyFrom_67 (by decide) ?_
  refine lv_aload_n C.1 C.2.1 dX4_copyFrom_68 rfl (lv_at hl 0 rfl) ?_
  refine r_tF C hK hP hT cl_4 (k := 4) (by decide) wd_148 rfl dX4_copyFrom_69 h (fun b26 h => ?_)
  refine lv_iconst (v := 0) C.1 C.2.1 dX4_copyFrom_72 (by decide) ?_
  refine lv_bipush (v := 24) C.1 C.2.1 dX4_copyFrom_73 (by decide) ?_
  refine r_cpy C hK hP hS hl.1 (ti := 0) (by decide) wd_406 w_acn w_acs w_aci (Nat.le_of_ble_eq_true rfl) (Nat.le_of_ble_eq_true rfl) dX4_copyFrom_75 h (fun M27 H locs h hP hS => ?_)
  refine lv_aload_n C.1 C.2.1 dX4_copyFrom_78 rfl (lv_at hl 1 rfl) ?_
  refine r_gF C hK hP cl_4 (k := 5) (by decide) wd_149 rfl dX4_copyFrom_79 h (fun b28 h => ?_)
  refine lv_iconst (v := 0) C.1 C.2.1 dX4_copyFrom_82 (by decide) ?_
  refine lv_aload_n C.1 C.2.1 dX4_copyFrom_83 rfl (lv_at hl 0 rfl) ?_
  refine r_tF C hK hP hT cl_4 (k := 5) (by decide) wd_149 rfl dX4_copyFrom_84 h (fun b29 h => ?_)
  refine lv_iconst (v := 0) C.1 C.2.1 dX4_copyFrom_87 (by decide) ?_
  refine lv_aload_n C.1 C.2.1 dX4_copyFrom_88 rfl (lv_at hl 0 rfl) ?_
  refine r_tF C hK hP hT cl_4 (k := 5) (by decide) wd_149 rfl dX4_copyFrom_89 h (fun b30 h => ?_)
  refine r_aN C hK hP dX4_copyFrom_92 h (fun x31 h => ?_)
  refine r_cpy C hK hP hS hl.1 (ti := 0) (by decide) wd_406 w_acn w_acs w_aci (Nat.le_of_ble_eq_true rfl) (Nat.le_of_ble_eq_true rfl) dX4_copyFrom_93 h (fun M32 H locs h hP hS => ?_)
  refine lv_aload_n C.1 C.2.1 dX4_copyFrom_96 rfl (lv_at hl 1 rfl) ?_
  refine r_gF C hK hP cl_4 (k := 8) (by decide) wd_152 rfl dX4_copyFrom_97 h (fun b33 h => ?_)
  refine lv_iconst (v := 0) C.1 C.2.1 dX4_copyFrom_100 (by decide) ?_
  refine lv_aload_n C.1 C.2.1 dX4_copyFrom_101 rfl (lv_at hl 0 rfl) ?_
  refine r_tF C hK hP hT cl_4 (k := 8) (by decide) wd_152 rfl dX4_copyFrom_102 h (fun b34 h => ?_)
  refine lv_iconst (v := 0) C.1 C.2.1 dX4_copyFrom_105 (by decide) ?_
  refine lv_bipush (v := 24) C.1 C.2.1 dX4_copyFrom_106 (by decide) ?_
  refine r_cpy C hK hP hS hl.1 (ti := 0) (by decide) wd_406 w_acn w_acs w_aci (Nat.le_of_ble_eq_true rfl) (Nat.le_of_ble_eq_true rfl) dX4_copyFrom_108 h (fun M35 H locs h hP hS => ?_)
  refine lv_aload_n C.1 C.2.1 dX4_copyFrom_111 rfl (lv_at hl 1 rfl) ?_
  refine r_gF C hK hP cl_4 (k := 10) (by decide) wd_154 rfl dX4_copyFrom_112 h (fun b36 h => ?_)
  refine lv_iconst (v := 0) C.1 C.2.1 dX4_copyFrom_115 (by decide) ?_
  refine lv_aload_n C.1 C.2.1 dX4_copyFrom_116 rfl (lv_at hl 0 rfl) ?_
  refine r_tF C hK hP hT cl_4 (k := 10) (by decide) wd_154 rfl dX4_copyFrom_117 h (fun b37 h => ?_)
  refine lv_iconst (v := 0) C.1 C.2.1 dX4_copyFrom_120 (by decide) ?_
  refine lv_bipush (v := 24) C.1 C.2.1 dX4_copyFrom_121 (by decide) ?_
  refine r_cpy C hK hP hS hl.1 (ti := 0) (by decide) wd_406 w_acn w_acs w_aci (Nat.le_of_ble_eq_true rfl) (Nat.le_of_ble_eq_true rfl) dX4_copyFrom_123 h (fun M38 H locs h hP hS => ?_)
  refine lv_aload_n C.1 C.2.1 dX4_copyFrom_126 rfl (lv_at hl 0 rfl) ?_
  refine lv_aload_n C.1 C.2.1 dX4_copyFrom_127 rfl (lv_at hl 1 rfl) ?_
  refine r_gI C hK hP cl_4 (k := 9) (by decide) wd_153 rfl dX4_copyFrom_128 h (fun x39 h => ?_)
  refine r_qI C hK hP hS hT cl_4 (k := 9) (by decide) wd_153 rfl rfl (tyX4_ok 9 (by decide)) dX4_copyFrom_131 h (fun M40 H locs h hP hS => ?_)
  refine lv_iconst (v := 0) C.1 C.2.1 dX4_copyFrom_134 (by decide) ?_
  refine lv_istore_n (lv' := [(2, .int 0), (0, .ref a0), (1, .ref a1)]) C.1 C.2.1 dX4_copyFrom_135 rfl hl (by decide) rfl (fun ls hl => ?_)
  exact J136  n (0) M40 _ _ _ hP hS (lv_sub hl [1, 2, 0] rfl) h
theorem dX4_has_0 : decode cX4_has 0 = .ok (.iload_n 1, 1) := by decide +kernel
theorem dX4_has_1 : decode cX4_has 1 = .ok (.ifCond .lt 23, 3) := by decide +kernel
theorem dX4_has_4 : decode cX4_has 4 = .ok (.iload_n 1, 1) := by decide +kernel
theorem dX4_has_5 : decode cX4_has 5 = .ok (.bipush 24, 2) := by decide +kernel
theorem dX4_has_7 : decode cX4_has 7 = .ok (.if_icmp .ge 17, 3) := by decide +kernel
theorem dX4_has_10 : decode cX4_has 10 = .ok (.aload_n 0, 1) := by decide +kernel
theorem dX4_has_11 : decode cX4_has 11 = .ok (.getfield 9, 3) := by decide +kernel
theorem dX4_has_14 : decode cX4_has 14 = .ok (.iload_n 1, 1) := by decide +kernel
theorem dX4_has_15 : decode cX4_has 15 = .ok (.iaload, 1) := by decide +kernel
theorem dX4_has_16 : decode cX4_has 16 = .ok (.iconst (-1), 1) := by decide +kernel
theorem dX4_has_17 : decode cX4_has 17 = .ok (.if_icmp .eq 7, 3) := by decide +kernel
theorem dX4_has_20 : decode cX4_has 20 = .ok (.iconst 1, 1) := by decide +kernel
theorem dX4_has_21 : decode cX4_has 21 = .ok (.goto 4, 3) := by decide +kernel
theorem dX4_has_24 : decode cX4_has 24 = .ok (.iconst 0, 1) := by decide +kernel
theorem dX4_has_25 : decode cX4_has 25 = .ok (.ireturn, 1) := by decide +kernel
abbrev rmX4_has : Room := { frames := 1, cells := 0, slots := 0, locals := 40 }
noncomputable def fX4_has (n : Nat) (Sh : Sp) (M : Mm) (a0 : Nat) (a1 : Int32) : Option Int32 :=
  if a1 < 0 then
    some 0
  else
    if a1 < 24 then
      tF M a0 0 fun b1 =>
      aI Sh M b1 0 a1 fun x2 =>
      if x2 = (-1) then
        some 0
      else
        some 1
    else
      some 0
set_option maxRecDepth 100000 in
set_option maxHeartbeats 4000000 in
theorem kX4_has {l : Launch} {G : Gt} {n : Nat} {Sh : Sp} {M : Mm} {a0 : Nat} {a1 : Int32} (hT : Sh a0 = some (.inl 4)) {r : Int32} (h : fX4_has n Sh M a0 a1 = some r) : Ct l yX4_has cX4_has 2 (some .boolean) rmX4_has G Sh M [.ref a0, .int a1] (some (.int r)) M := by
  refine Ct.of (by decide) (Nat.le_of_ble_eq_true rfl) ?_
  intro p e s m args below meth c ls C hK hX hP hS hb hlk hr hl
  replace hl : lv_has ls 2 [(0, .ref a0), (1, .int a1)] := hl
  unfold fX4_has at h
  refine lv_iload_n C.1 C.2.1 dX4_has_0 rfl (lv_at hl 1 rfl) ?_
  refine b_lt (tgt := 24) C dX4_has_1 (by decide) h (fun h => ?_) (fun h => ?_)
  · refine lv_iconst (v := 0) C.1 C.2.1 dX4_has_24 (by decide) ?_
    have e := Option.some.inj h
    exact q_z C hlk hP hS hr (by decide) (by rw [← e]) rfl dX4_has_25
  · refine lv_iload_n C.1 C.2.1 dX4_has_4 rfl (lv_at hl 1 rfl) ?_
    refine lv_bipush (v := 24) C.1 C.2.1 dX4_has_5 (by decide) ?_
    refine b_ige (tgt := 24) C dX4_has_7 (by decide) h (fun h => ?_) (fun h => ?_)
    · refine lv_aload_n C.1 C.2.1 dX4_has_10 rfl (lv_at hl 0 rfl) ?_
      refine r_tF C hK hP hT cl_4 (k := 0) (by decide) wd_144 rfl dX4_has_11 h (fun b1 h => ?_)
      refine lv_iload_n C.1 C.2.1 dX4_has_14 rfl (lv_at hl 1 rfl) ?_
      refine r_aI C hK hP dX4_has_15 h (fun x2 h => ?_)
      refine lv_iconst (v := (-1)) C.1 C.2.1 dX4_has_16 (by decide) ?_
      refine b_ieq (tgt := 24) C dX4_has_17 (by decide) h (fun h => ?_) (fun h => ?_)
      · refine lv_iconst (v := 0) C.1 C.2.1 dX4_has_24 (by decide) ?_
        have e := Option.some.inj h
        exact q_z C hlk hP hS hr (by decide) (by rw [← e]) rfl dX4_has_25
      · refine lv_iconst (v := 1) C.1 C.2.1 dX4_has_20 (by decide) ?_
        refine lv_goto (tgt := 25) C.1 C.2.1 dX4_has_21 (by decide) ?_
        have e := Option.some.inj h
        exact q_z C hlk hP hS hr (by decide) (by rw [← e]) rfl dX4_has_25
    · refine lv_iconst (v := 0) C.1 C.2.1 dX4_has_24 (by decide) ?_
      have e := Option.some.inj h
      exact q_z C hlk hP hS hr (by decide) (by rw [← e]) rfl dX4_has_25
theorem dX4_lowestFree_0 : decode cX4_lowestFree 0 = .ok (.iconst 0, 1) := by decide +kernel
theorem dX4_lowestFree_1 : decode cX4_lowestFree 1 = .ok (.istore_n 1, 1) := by decide +kernel
theorem dX4_lowestFree_2 : decode cX4_lowestFree 2 = .ok (.iload_n 1, 1) := by decide +kernel
theorem dX4_lowestFree_3 : decode cX4_lowestFree 3 = .ok (.bipush 24, 2) := by decide +kernel
theorem dX4_lowestFree_5 : decode cX4_lowestFree 5 = .ok (.if_icmp .ge 19, 3) := by decide +kernel
theorem dX4_lowestFree_8 : decode cX4_lowestFree 8 = .ok (.aload_n 0, 1) := by decide +kernel
theorem dX4_lowestFree_9 : decode cX4_lowestFree 9 = .ok (.iload_n 1, 1) := by decide +kernel
theorem dX4_lowestFree_10 : decode cX4_lowestFree 10 = .ok (.invokevirtual 73, 3) := by decide +kernel
theorem dX4_lowestFree_13 : decode cX4_lowestFree 13 = .ok (.ifCond .ne 5, 3) := by decide +kernel
theorem dX4_lowestFree_16 : decode cX4_lowestFree 16 = .ok (.iload_n 1, 1) := by decide +kernel
theorem dX4_lowestFree_17 : decode cX4_lowestFree 17 = .ok (.ireturn, 1) := by decide +kernel
theorem dX4_lowestFree_18 : decode cX4_lowestFree 18 = .ok (.iinc 1 1, 3) := by decide +kernel
theorem dX4_lowestFree_21 : decode cX4_lowestFree 21 = .ok (.goto (-19), 3) := by decide +kernel
theorem dX4_lowestFree_24 : decode cX4_lowestFree 24 = .ok (.iconst (-1), 1) := by decide +kernel
theorem dX4_lowestFree_25 : decode cX4_lowestFree 25 = .ok (.ireturn, 1) := by decide +kernel
abbrev rmX4_lowestFree : Room := { frames := 2, cells := 0, slots := 0, locals := 61 }
noncomputable def fX4_lowestFree_2b (n : Nat) (Sh : Sp) (M : Mm) (a0 : Nat) (v1 : Int32) : Option (Int32 ⊕ Int32) :=
  if v1 < 24 then
    (fX4_has n Sh M a0 v1).bind fun r1 =>
    if r1 = 0 then
      some (Sum.inr v1)
    else
      some (Sum.inl (v1 + 1))
  else
    some (Sum.inr (-1))
noncomputable def fX4_lowestFree_2 (n : Nat) (Sh : Sp) (M : Mm) (a0 : Nat) (v1 : Int32) : Option Int32 :=
  iter n (fun s => fX4_lowestFree_2b n Sh M a0 s) v1
noncomputable def fX4_lowestFree (n : Nat) (Sh : Sp) (M : Mm) (a0 : Nat) : Option Int32 :=
  fX4_lowestFree_2 n Sh M a0 0
set_option maxRecDepth 100000 in
set_option maxHeartbeats 4000000 in
theorem kX4_lowestFree {l : Launch} {G : Gt} {n : Nat} {Sh : Sp} {M : Mm} {a0 : Nat} (hT : Sh a0 = some (.inl 4)) {r : Int32} (h : fX4_lowestFree n Sh M a0 = some r) : Ct l yX4_lowestFree cX4_lowestFree 2 (some .int) rmX4_lowestFree G Sh M [.ref a0] (some (.int r)) M := by
  refine Ct.of (by decide) (Nat.le_of_ble_eq_true rfl) ?_
  intro p e s m args below meth c ls C hK hX hP hS hb hlk hr hl
  replace hl : lv_has ls 2 [(0, .ref a0)] := hl
  have J2 : ∀ (k : Nat) (v1 : Int32) (H : Heap) (locs : List Loc) (ls : Array Slot), HM G Sh M H → SS G s s.heap.size H locs → lv_has ls 2 [(0, .ref a0), (1, .int v1)] → iter k (fun s => fX4_lowestFree_2b n Sh M a0 s) v1 = some r → W p l e rmX4_lowestFree s m args below meth c H locs 0 0 (MQ below (QG G Sh M (some (.int r))) args s rmX4_lowestFree.cells rmX4_lowestFree.slots (AA G)) (F0 m 2 ls []) := by
    intro k
    induction k with
    | zero => intro v1 H locs ls hP hS hl h; exact (iter_0 h).elim
    | succ k ih1 =>
      intro v1 H locs ls hP hS hl h
      obtain ⟨z1, h, hz1⟩ := iter_some h
      replace h : fX4_lowestFree_2b n Sh M a0 v1 = some z1 := h
      unfold fX4_lowestFree_2b at h
      refine lv_iload_n C.1 C.2.1 dX4_lowestFree_2 rfl (lv_at hl 1 rfl) ?_
      refine lv_bipush (v := 24) C.1 C.2.1 dX4_lowestFree_3 (by decide) ?_
      refine b_ige (tgt := 24) C dX4_lowestFree_5 (by decide) h (fun h => ?_) (fun h => ?_)
      · refine lv_aload_n C.1 C.2.1 dX4_lowestFree_8 rfl (lv_at hl 0 rfl) ?_
        refine lv_iload_n C.1 C.2.1 dX4_lowestFree_9 rfl (lv_at hl 1 rfl) ?_
        obtain ⟨r1, hc, h⟩ := bS h
        refine r_V1 C hK hX hb hP hS hl.1 (kX4_has (hT) hc) hT cl_4 wd_297 mo_X4_has wd_298 wd_299 ⟨Nat.le_of_ble_eq_true rfl, Nat.le_of_ble_eq_true rfl⟩ ⟨Nat.le_of_ble_eq_true rfl, Nat.le_of_ble_eq_true rfl⟩ rfl (rest := []) rfl (Nat.le_of_ble_eq_true rfl) dX4_lowestFree_10 (fun H locs hP hS => ?_)
        refine b_ne (tgt := 18) C dX4_lowestFree_13 (by decide) h (fun h => ?_) (fun h => ?_)
        · refine lv_iload_n C.1 C.2.1 dX4_lowestFree_16 rfl (lv_at hl 1 rfl) ?_
          have e := Option.some.inj h
          rw [← e] at hz1
          replace e := itK_inr hz1
          exact q_i C hlk hP hS hr (by rw [← e]) rfl dX4_lowestFree_17
        · refine lv_iinc (v := (v1 + 1)) (lv' := [(1, .int (v1 + 1)), (0, .ref a0)]) C.1 C.2.1 dX4_lowestFree_18 hl (k := 1) rfl rfl (by decide) rfl (fun ls hl => ?_)
          refine lv_goto (tgt := 2) C.1 C.2.1 dX4_lowestFree_21 (by decide) ?_
          have e := Option.some.inj h
          rw [← e] at hz1
          exact ih1 ((v1 + 1)) _ _ _ hP hS (lv_sub hl [1, 0] rfl) (itK_inl hz1)
      · refine lv_iconst (v := (-1)) C.1 C.2.1 dX4_lowestFree_24 (by decide) ?_
        have e := Option.some.inj h
        rw [← e] at hz1
        replace e := itK_inr hz1
        exact q_i C hlk hP hS hr (by rw [← e]) rfl dX4_lowestFree_25
  unfold fX4_lowestFree at h
  refine lv_iconst (v := 0) C.1 C.2.1 dX4_lowestFree_0 (by decide) ?_
  refine lv_istore_n (lv' := [(1, .int 0), (0, .ref a0)]) C.1 C.2.1 dX4_lowestFree_1 rfl hl (by decide) rfl (fun ls hl => ?_)
  exact J2  n (0) _ _ _ hP hS (lv_sub hl [1, 0] rfl) h
theorem dX4_roleOf_0 : decode cX4_roleOf 0 = .ok (.iload_n 1, 1) := by decide +kernel
theorem dX4_roleOf_1 : decode cX4_roleOf 1 = .ok (.ifCond .lt 18, 3) := by decide +kernel
theorem dX4_roleOf_4 : decode cX4_roleOf 4 = .ok (.iload_n 1, 1) := by decide +kernel
theorem dX4_roleOf_5 : decode cX4_roleOf 5 = .ok (.bipush 24, 2) := by decide +kernel
theorem dX4_roleOf_7 : decode cX4_roleOf 7 = .ok (.if_icmp .ge 12, 3) := by decide +kernel
theorem dX4_roleOf_10 : decode cX4_roleOf 10 = .ok (.aload_n 0, 1) := by decide +kernel
theorem dX4_roleOf_11 : decode cX4_roleOf 11 = .ok (.getfield 9, 3) := by decide +kernel
theorem dX4_roleOf_14 : decode cX4_roleOf 14 = .ok (.iload_n 1, 1) := by decide +kernel
theorem dX4_roleOf_15 : decode cX4_roleOf 15 = .ok (.iaload, 1) := by decide +kernel
theorem dX4_roleOf_16 : decode cX4_roleOf 16 = .ok (.goto 4, 3) := by decide +kernel
theorem dX4_roleOf_19 : decode cX4_roleOf 19 = .ok (.iconst (-1), 1) := by decide +kernel
theorem dX4_roleOf_20 : decode cX4_roleOf 20 = .ok (.ireturn, 1) := by decide +kernel
abbrev rmX4_roleOf : Room := { frames := 1, cells := 0, slots := 0, locals := 40 }
noncomputable def fX4_roleOf (n : Nat) (Sh : Sp) (M : Mm) (a0 : Nat) (a1 : Int32) : Option Int32 :=
  if a1 < 0 then
    some (-1)
  else
    if a1 < 24 then
      tF M a0 0 fun b1 =>
      aI Sh M b1 0 a1 fun x2 =>
      some x2
    else
      some (-1)
set_option maxRecDepth 100000 in
set_option maxHeartbeats 4000000 in
theorem kX4_roleOf {l : Launch} {G : Gt} {n : Nat} {Sh : Sp} {M : Mm} {a0 : Nat} {a1 : Int32} (hT : Sh a0 = some (.inl 4)) {r : Int32} (h : fX4_roleOf n Sh M a0 a1 = some r) : Ct l yX4_roleOf cX4_roleOf 2 (some .int) rmX4_roleOf G Sh M [.ref a0, .int a1] (some (.int r)) M := by
  refine Ct.of (by decide) (Nat.le_of_ble_eq_true rfl) ?_
  intro p e s m args below meth c ls C hK hX hP hS hb hlk hr hl
  replace hl : lv_has ls 2 [(0, .ref a0), (1, .int a1)] := hl
  unfold fX4_roleOf at h
  refine lv_iload_n C.1 C.2.1 dX4_roleOf_0 rfl (lv_at hl 1 rfl) ?_
  refine b_lt (tgt := 19) C dX4_roleOf_1 (by decide) h (fun h => ?_) (fun h => ?_)
  · refine lv_iconst (v := (-1)) C.1 C.2.1 dX4_roleOf_19 (by decide) ?_
    have e := Option.some.inj h
    exact q_i C hlk hP hS hr (by rw [← e]) rfl dX4_roleOf_20
  · refine lv_iload_n C.1 C.2.1 dX4_roleOf_4 rfl (lv_at hl 1 rfl) ?_
    refine lv_bipush (v := 24) C.1 C.2.1 dX4_roleOf_5 (by decide) ?_
    refine b_ige (tgt := 19) C dX4_roleOf_7 (by decide) h (fun h => ?_) (fun h => ?_)
    · refine lv_aload_n C.1 C.2.1 dX4_roleOf_10 rfl (lv_at hl 0 rfl) ?_
      refine r_tF C hK hP hT cl_4 (k := 0) (by decide) wd_144 rfl dX4_roleOf_11 h (fun b1 h => ?_)
      refine lv_iload_n C.1 C.2.1 dX4_roleOf_14 rfl (lv_at hl 1 rfl) ?_
      refine r_aI C hK hP dX4_roleOf_15 h (fun x2 h => ?_)
      refine lv_goto (tgt := 20) C.1 C.2.1 dX4_roleOf_16 (by decide) ?_
      have e := Option.some.inj h
      exact q_i C hlk hP hS hr (by rw [← e]) rfl dX4_roleOf_20
    · refine lv_iconst (v := (-1)) C.1 C.2.1 dX4_roleOf_19 (by decide) ?_
      have e := Option.some.inj h
      exact q_i C hlk hP hS hr (by rw [← e]) rfl dX4_roleOf_20
theorem dX4_parentOf_0 : decode cX4_parentOf 0 = .ok (.iload_n 1, 1) := by decide +kernel
theorem dX4_parentOf_1 : decode cX4_parentOf 1 = .ok (.ifCond .lt 18, 3) := by decide +kernel
theorem dX4_parentOf_4 : decode cX4_parentOf 4 = .ok (.iload_n 1, 1) := by decide +kernel
theorem dX4_parentOf_5 : decode cX4_parentOf 5 = .ok (.bipush 24, 2) := by decide +kernel
theorem dX4_parentOf_7 : decode cX4_parentOf 7 = .ok (.if_icmp .ge 12, 3) := by decide +kernel
theorem dX4_parentOf_10 : decode cX4_parentOf 10 = .ok (.aload_n 0, 1) := by decide +kernel
theorem dX4_parentOf_11 : decode cX4_parentOf 11 = .ok (.getfield 15, 3) := by decide +kernel
theorem dX4_parentOf_14 : decode cX4_parentOf 14 = .ok (.iload_n 1, 1) := by decide +kernel
theorem dX4_parentOf_15 : decode cX4_parentOf 15 = .ok (.iaload, 1) := by decide +kernel
theorem dX4_parentOf_16 : decode cX4_parentOf 16 = .ok (.goto 4, 3) := by decide +kernel
theorem dX4_parentOf_19 : decode cX4_parentOf 19 = .ok (.iconst (-1), 1) := by decide +kernel
theorem dX4_parentOf_20 : decode cX4_parentOf 20 = .ok (.ireturn, 1) := by decide +kernel
abbrev rmX4_parentOf : Room := { frames := 1, cells := 0, slots := 0, locals := 40 }
noncomputable def fX4_parentOf (n : Nat) (Sh : Sp) (M : Mm) (a0 : Nat) (a1 : Int32) : Option Int32 :=
  if a1 < 0 then
    some (-1)
  else
    if a1 < 24 then
      tF M a0 1 fun b1 =>
      aI Sh M b1 0 a1 fun x2 =>
      some x2
    else
      some (-1)
set_option maxRecDepth 100000 in
set_option maxHeartbeats 4000000 in
theorem kX4_parentOf {l : Launch} {G : Gt} {n : Nat} {Sh : Sp} {M : Mm} {a0 : Nat} {a1 : Int32} (hT : Sh a0 = some (.inl 4)) {r : Int32} (h : fX4_parentOf n Sh M a0 a1 = some r) : Ct l yX4_parentOf cX4_parentOf 2 (some .int) rmX4_parentOf G Sh M [.ref a0, .int a1] (some (.int r)) M := by
  refine Ct.of (by decide) (Nat.le_of_ble_eq_true rfl) ?_
  intro p e s m args below meth c ls C hK hX hP hS hb hlk hr hl
  replace hl : lv_has ls 2 [(0, .ref a0), (1, .int a1)] := hl
  unfold fX4_parentOf at h
  refine lv_iload_n C.1 C.2.1 dX4_parentOf_0 rfl (lv_at hl 1 rfl) ?_
  refine b_lt (tgt := 19) C dX4_parentOf_1 (by decide) h (fun h => ?_) (fun h => ?_)
  · refine lv_iconst (v := (-1)) C.1 C.2.1 dX4_parentOf_19 (by decide) ?_
    have e := Option.some.inj h
    exact q_i C hlk hP hS hr (by rw [← e]) rfl dX4_parentOf_20
  · refine lv_iload_n C.1 C.2.1 dX4_parentOf_4 rfl (lv_at hl 1 rfl) ?_
    refine lv_bipush (v := 24) C.1 C.2.1 dX4_parentOf_5 (by decide) ?_
    refine b_ige (tgt := 19) C dX4_parentOf_7 (by decide) h (fun h => ?_) (fun h => ?_)
    · refine lv_aload_n C.1 C.2.1 dX4_parentOf_10 rfl (lv_at hl 0 rfl) ?_
      refine r_tF C hK hP hT cl_4 (k := 1) (by decide) wd_145 rfl dX4_parentOf_11 h (fun b1 h => ?_)
      refine lv_iload_n C.1 C.2.1 dX4_parentOf_14 rfl (lv_at hl 1 rfl) ?_
      refine r_aI C hK hP dX4_parentOf_15 h (fun x2 h => ?_)
      refine lv_goto (tgt := 20) C.1 C.2.1 dX4_parentOf_16 (by decide) ?_
      have e := Option.some.inj h
      exact q_i C hlk hP hS hr (by rw [← e]) rfl dX4_parentOf_20
    · refine lv_iconst (v := (-1)) C.1 C.2.1 dX4_parentOf_19 (by decide) ?_
      have e := Option.some.inj h
      exact q_i C hlk hP hS hr (by rw [← e]) rfl dX4_parentOf_20
theorem dX4_kidCount_0 : decode cX4_kidCount 0 = .ok (.iload_n 1, 1) := by decide +kernel
theorem dX4_kidCount_1 : decode cX4_kidCount 1 = .ok (.ifCond .lt 18, 3) := by decide +kernel
theorem dX4_kidCount_4 : decode cX4_kidCount 4 = .ok (.iload_n 1, 1) := by decide +kernel
theorem dX4_kidCount_5 : decode cX4_kidCount 5 = .ok (.bipush 24, 2) := by decide +kernel
theorem dX4_kidCount_7 : decode cX4_kidCount 7 = .ok (.if_icmp .ge 12, 3) := by decide +kernel
theorem dX4_kidCount_10 : decode cX4_kidCount 10 = .ok (.aload_n 0, 1) := by decide +kernel
theorem dX4_kidCount_11 : decode cX4_kidCount 11 = .ok (.getfield 18, 3) := by decide +kernel
theorem dX4_kidCount_14 : decode cX4_kidCount 14 = .ok (.iload_n 1, 1) := by decide +kernel
theorem dX4_kidCount_15 : decode cX4_kidCount 15 = .ok (.iaload, 1) := by decide +kernel
theorem dX4_kidCount_16 : decode cX4_kidCount 16 = .ok (.goto 4, 3) := by decide +kernel
theorem dX4_kidCount_19 : decode cX4_kidCount 19 = .ok (.iconst 0, 1) := by decide +kernel
theorem dX4_kidCount_20 : decode cX4_kidCount 20 = .ok (.ireturn, 1) := by decide +kernel
abbrev rmX4_kidCount : Room := { frames := 1, cells := 0, slots := 0, locals := 40 }
noncomputable def fX4_kidCount (n : Nat) (Sh : Sp) (M : Mm) (a0 : Nat) (a1 : Int32) : Option Int32 :=
  if a1 < 0 then
    some 0
  else
    if a1 < 24 then
      tF M a0 2 fun b1 =>
      aI Sh M b1 0 a1 fun x2 =>
      some x2
    else
      some 0
set_option maxRecDepth 100000 in
set_option maxHeartbeats 4000000 in
theorem kX4_kidCount {l : Launch} {G : Gt} {n : Nat} {Sh : Sp} {M : Mm} {a0 : Nat} {a1 : Int32} (hT : Sh a0 = some (.inl 4)) {r : Int32} (h : fX4_kidCount n Sh M a0 a1 = some r) : Ct l yX4_kidCount cX4_kidCount 2 (some .int) rmX4_kidCount G Sh M [.ref a0, .int a1] (some (.int r)) M := by
  refine Ct.of (by decide) (Nat.le_of_ble_eq_true rfl) ?_
  intro p e s m args below meth c ls C hK hX hP hS hb hlk hr hl
  replace hl : lv_has ls 2 [(0, .ref a0), (1, .int a1)] := hl
  unfold fX4_kidCount at h
  refine lv_iload_n C.1 C.2.1 dX4_kidCount_0 rfl (lv_at hl 1 rfl) ?_
  refine b_lt (tgt := 19) C dX4_kidCount_1 (by decide) h (fun h => ?_) (fun h => ?_)
  · refine lv_iconst (v := 0) C.1 C.2.1 dX4_kidCount_19 (by decide) ?_
    have e := Option.some.inj h
    exact q_i C hlk hP hS hr (by rw [← e]) rfl dX4_kidCount_20
  · refine lv_iload_n C.1 C.2.1 dX4_kidCount_4 rfl (lv_at hl 1 rfl) ?_
    refine lv_bipush (v := 24) C.1 C.2.1 dX4_kidCount_5 (by decide) ?_
    refine b_ige (tgt := 19) C dX4_kidCount_7 (by decide) h (fun h => ?_) (fun h => ?_)
    · refine lv_aload_n C.1 C.2.1 dX4_kidCount_10 rfl (lv_at hl 0 rfl) ?_
      refine r_tF C hK hP hT cl_4 (k := 2) (by decide) wd_146 rfl dX4_kidCount_11 h (fun b1 h => ?_)
      refine lv_iload_n C.1 C.2.1 dX4_kidCount_14 rfl (lv_at hl 1 rfl) ?_
      refine r_aI C hK hP dX4_kidCount_15 h (fun x2 h => ?_)
      refine lv_goto (tgt := 20) C.1 C.2.1 dX4_kidCount_16 (by decide) ?_
      have e := Option.some.inj h
      exact q_i C hlk hP hS hr (by rw [← e]) rfl dX4_kidCount_20
    · refine lv_iconst (v := 0) C.1 C.2.1 dX4_kidCount_19 (by decide) ?_
      have e := Option.some.inj h
      exact q_i C hlk hP hS hr (by rw [← e]) rfl dX4_kidCount_20
theorem dX4_kidAt_0 : decode cX4_kidAt 0 = .ok (.iload_n 1, 1) := by decide +kernel
theorem dX4_kidAt_1 : decode cX4_kidAt 1 = .ok (.ifCond .lt 23, 3) := by decide +kernel
theorem dX4_kidAt_4 : decode cX4_kidAt 4 = .ok (.iload_n 1, 1) := by decide +kernel
theorem dX4_kidAt_5 : decode cX4_kidAt 5 = .ok (.bipush 24, 2) := by decide +kernel
theorem dX4_kidAt_7 : decode cX4_kidAt 7 = .ok (.if_icmp .ge 17, 3) := by decide +kernel
theorem dX4_kidAt_10 : decode cX4_kidAt 10 = .ok (.iload_n 2, 1) := by decide +kernel
theorem dX4_kidAt_11 : decode cX4_kidAt 11 = .ok (.ifCond .lt 13, 3) := by decide +kernel
theorem dX4_kidAt_14 : decode cX4_kidAt 14 = .ok (.iload_n 2, 1) := by decide +kernel
theorem dX4_kidAt_15 : decode cX4_kidAt 15 = .ok (.aload_n 0, 1) := by decide +kernel
theorem dX4_kidAt_16 : decode cX4_kidAt 16 = .ok (.getfield 18, 3) := by decide +kernel
theorem dX4_kidAt_19 : decode cX4_kidAt 19 = .ok (.iload_n 1, 1) := by decide +kernel
theorem dX4_kidAt_20 : decode cX4_kidAt 20 = .ok (.iaload, 1) := by decide +kernel
theorem dX4_kidAt_21 : decode cX4_kidAt 21 = .ok (.if_icmp .lt 5, 3) := by decide +kernel
theorem dX4_kidAt_24 : decode cX4_kidAt 24 = .ok (.iconst (-1), 1) := by decide +kernel
theorem dX4_kidAt_25 : decode cX4_kidAt 25 = .ok (.ireturn, 1) := by decide +kernel
theorem dX4_kidAt_26 : decode cX4_kidAt 26 = .ok (.aload_n 0, 1) := by decide +kernel
theorem dX4_kidAt_27 : decode cX4_kidAt 27 = .ok (.getfield 21, 3) := by decide +kernel
theorem dX4_kidAt_30 : decode cX4_kidAt 30 = .ok (.iload_n 1, 1) := by decide +kernel
theorem dX4_kidAt_31 : decode cX4_kidAt 31 = .ok (.bipush 24, 2) := by decide +kernel
theorem dX4_kidAt_33 : decode cX4_kidAt 33 = .ok (.imul, 1) := by decide +kernel
theorem dX4_kidAt_34 : decode cX4_kidAt 34 = .ok (.iload_n 2, 1) := by decide +kernel
theorem dX4_kidAt_35 : decode cX4_kidAt 35 = .ok (.iadd, 1) := by decide +kernel
theorem dX4_kidAt_36 : decode cX4_kidAt 36 = .ok (.iaload, 1) := by decide +kernel
theorem dX4_kidAt_37 : decode cX4_kidAt 37 = .ok (.ireturn, 1) := by decide +kernel
abbrev rmX4_kidAt : Room := { frames := 1, cells := 0, slots := 0, locals := 40 }
noncomputable def fX4_kidAt (n : Nat) (Sh : Sp) (M : Mm) (a0 : Nat) (a1 : Int32) (a2 : Int32) : Option Int32 :=
  if a1 < 0 then
    some (-1)
  else
    if a1 < 24 then
      if a2 < 0 then
        some (-1)
      else
        tF M a0 2 fun b1 =>
        aI Sh M b1 0 a1 fun x2 =>
        if a2 < x2 then
          tF M a0 3 fun b3 =>
          aI Sh M b3 0 ((a1 * 24) + a2) fun x4 =>
          some x4
        else
          some (-1)
    else
      some (-1)
set_option maxRecDepth 100000 in
set_option maxHeartbeats 4000000 in
theorem kX4_kidAt {l : Launch} {G : Gt} {n : Nat} {Sh : Sp} {M : Mm} {a0 : Nat} {a1 : Int32} {a2 : Int32} (hT : Sh a0 = some (.inl 4)) {r : Int32} (h : fX4_kidAt n Sh M a0 a1 a2 = some r) : Ct l yX4_kidAt cX4_kidAt 3 (some .int) rmX4_kidAt G Sh M [.ref a0, .int a1, .int a2] (some (.int r)) M := by
  refine Ct.of (by decide) (Nat.le_of_ble_eq_true rfl) ?_
  intro p e s m args below meth c ls C hK hX hP hS hb hlk hr hl
  replace hl : lv_has ls 3 [(0, .ref a0), (1, .int a1), (2, .int a2)] := hl
  unfold fX4_kidAt at h
  refine lv_iload_n C.1 C.2.1 dX4_kidAt_0 rfl (lv_at hl 1 rfl) ?_
  refine b_lt (tgt := 24) C dX4_kidAt_1 (by decide) h (fun h => ?_) (fun h => ?_)
  · refine lv_iconst (v := (-1)) C.1 C.2.1 dX4_kidAt_24 (by decide) ?_
    have e := Option.some.inj h
    exact q_i C hlk hP hS hr (by rw [← e]) rfl dX4_kidAt_25
  · refine lv_iload_n C.1 C.2.1 dX4_kidAt_4 rfl (lv_at hl 1 rfl) ?_
    refine lv_bipush (v := 24) C.1 C.2.1 dX4_kidAt_5 (by decide) ?_
    refine b_ige (tgt := 24) C dX4_kidAt_7 (by decide) h (fun h => ?_) (fun h => ?_)
    · refine lv_iload_n C.1 C.2.1 dX4_kidAt_10 rfl (lv_at hl 2 rfl) ?_
      refine b_lt (tgt := 24) C dX4_kidAt_11 (by decide) h (fun h => ?_) (fun h => ?_)
      · refine lv_iconst (v := (-1)) C.1 C.2.1 dX4_kidAt_24 (by decide) ?_
        have e := Option.some.inj h
        exact q_i C hlk hP hS hr (by rw [← e]) rfl dX4_kidAt_25
      · refine lv_iload_n C.1 C.2.1 dX4_kidAt_14 rfl (lv_at hl 2 rfl) ?_
        refine lv_aload_n C.1 C.2.1 dX4_kidAt_15 rfl (lv_at hl 0 rfl) ?_
        refine r_tF C hK hP hT cl_4 (k := 2) (by decide) wd_146 rfl dX4_kidAt_16 h (fun b1 h => ?_)
        refine lv_iload_n C.1 C.2.1 dX4_kidAt_19 rfl (lv_at hl 1 rfl) ?_
        refine r_aI C hK hP dX4_kidAt_20 h (fun x2 h => ?_)
        refine b_ilt (tgt := 26) C dX4_kidAt_21 (by decide) h (fun h => ?_) (fun h => ?_)
        · refine lv_aload_n C.1 C.2.1 dX4_kidAt_26 rfl (lv_at hl 0 rfl) ?_
          refine r_tF C hK hP hT cl_4 (k := 3) (by decide) wd_147 rfl dX4_kidAt_27 h (fun b3 h => ?_)
          refine lv_iload_n C.1 C.2.1 dX4_kidAt_30 rfl (lv_at hl 1 rfl) ?_
          refine lv_bipush (v := 24) C.1 C.2.1 dX4_kidAt_31 (by decide) ?_
          refine lv_imul C.1 C.2.1 dX4_kidAt_33 ?_
          refine lv_iload_n C.1 C.2.1 dX4_kidAt_34 rfl (lv_at hl 2 rfl) ?_
          refine lv_iadd C.1 C.2.1 dX4_kidAt_35 ?_
          refine r_aI C hK hP dX4_kidAt_36 h (fun x4 h => ?_)
          have e := Option.some.inj h
          exact q_i C hlk hP hS hr (by rw [← e]) rfl dX4_kidAt_37
        · refine lv_iconst (v := (-1)) C.1 C.2.1 dX4_kidAt_24 (by decide) ?_
          have e := Option.some.inj h
          exact q_i C hlk hP hS hr (by rw [← e]) rfl dX4_kidAt_25
    · refine lv_iconst (v := (-1)) C.1 C.2.1 dX4_kidAt_24 (by decide) ?_
      have e := Option.some.inj h
      exact q_i C hlk hP hS hr (by rw [← e]) rfl dX4_kidAt_25
theorem dX4_placeOf_0 : decode cX4_placeOf 0 = .ok (.aload_n 0, 1) := by decide +kernel
theorem dX4_placeOf_1 : decode cX4_placeOf 1 = .ok (.iload_n 1, 1) := by decide +kernel
theorem dX4_placeOf_2 : decode cX4_placeOf 2 = .ok (.invokevirtual 77, 3) := by decide +kernel
theorem dX4_placeOf_5 : decode cX4_placeOf 5 = .ok (.istore_n 2, 1) := by decide +kernel
theorem dX4_placeOf_6 : decode cX4_placeOf 6 = .ok (.iconst 0, 1) := by decide +kernel
theorem dX4_placeOf_7 : decode cX4_placeOf 7 = .ok (.istore_n 3, 1) := by decide +kernel
theorem dX4_placeOf_8 : decode cX4_placeOf 8 = .ok (.iload_n 3, 1) := by decide +kernel
theorem dX4_placeOf_9 : decode cX4_placeOf 9 = .ok (.aload_n 0, 1) := by decide +kernel
theorem dX4_placeOf_10 : decode cX4_placeOf 10 = .ok (.iload_n 2, 1) := by decide +kernel
theorem dX4_placeOf_11 : decode cX4_placeOf 11 = .ok (.invokevirtual 81, 3) := by decide +kernel
theorem dX4_placeOf_14 : decode cX4_placeOf 14 = .ok (.if_icmp .ge 21, 3) := by decide +kernel
theorem dX4_placeOf_17 : decode cX4_placeOf 17 = .ok (.aload_n 0, 1) := by decide +kernel
theorem dX4_placeOf_18 : decode cX4_placeOf 18 = .ok (.iload_n 2, 1) := by decide +kernel
theorem dX4_placeOf_19 : decode cX4_placeOf 19 = .ok (.iload_n 3, 1) := by decide +kernel
theorem dX4_placeOf_20 : decode cX4_placeOf 20 = .ok (.invokevirtual 84, 3) := by decide +kernel
theorem dX4_placeOf_23 : decode cX4_placeOf 23 = .ok (.iload_n 1, 1) := by decide +kernel
theorem dX4_placeOf_24 : decode cX4_placeOf 24 = .ok (.if_icmp .ne 5, 3) := by decide +kernel
theorem dX4_placeOf_27 : decode cX4_placeOf 27 = .ok (.iload_n 3, 1) := by decide +kernel
theorem dX4_placeOf_28 : decode cX4_placeOf 28 = .ok (.ireturn, 1) := by decide +kernel
theorem dX4_placeOf_29 : decode cX4_placeOf 29 = .ok (.iinc 3 1, 3) := by decide +kernel
theorem dX4_placeOf_32 : decode cX4_placeOf 32 = .ok (.goto (-24), 3) := by decide +kernel
theorem dX4_placeOf_35 : decode cX4_placeOf 35 = .ok (.iconst 0, 1) := by decide +kernel
theorem dX4_placeOf_36 : decode cX4_placeOf 36 = .ok (.ireturn, 1) := by decide +kernel
abbrev rmX4_placeOf : Room := { frames := 2, cells := 0, slots := 0, locals := 62 }
noncomputable def fX4_placeOf_8b (n : Nat) (Sh : Sp) (M : Mm) (a0 : Nat) (a1 : Int32) (v2 : Int32) (v3 : Int32) : Option (Int32 ⊕ Int32) :=
  (fX4_kidCount n Sh M a0 v2).bind fun r1 =>
  if v3 < r1 then
    (fX4_kidAt n Sh M a0 v2 v3).bind fun r2 =>
    if r2 = a1 then
      some (Sum.inr v3)
    else
      some (Sum.inl (v3 + 1))
  else
    some (Sum.inr 0)
noncomputable def fX4_placeOf_8 (n : Nat) (Sh : Sp) (M : Mm) (a0 : Nat) (a1 : Int32) (v2 : Int32) (v3 : Int32) : Option Int32 :=
  iter n (fun s => fX4_placeOf_8b n Sh M a0 a1 v2 s) v3
noncomputable def fX4_placeOf (n : Nat) (Sh : Sp) (M : Mm) (a0 : Nat) (a1 : Int32) : Option Int32 :=
  (fX4_parentOf n Sh M a0 a1).bind fun r3 =>
  fX4_placeOf_8 n Sh M a0 a1 r3 0
set_option maxRecDepth 100000 in
set_option maxHeartbeats 4000000 in
theorem kX4_placeOf {l : Launch} {G : Gt} {n : Nat} {Sh : Sp} {M : Mm} {a0 : Nat} {a1 : Int32} (hT : Sh a0 = some (.inl 4)) {r : Int32} (h : fX4_placeOf n Sh M a0 a1 = some r) : Ct l yX4_placeOf cX4_placeOf 4 (some .int) rmX4_placeOf G Sh M [.ref a0, .int a1] (some (.int r)) M := by
  refine Ct.of (by decide) (Nat.le_of_ble_eq_true rfl) ?_
  intro p e s m args below meth c ls C hK hX hP hS hb hlk hr hl
  replace hl : lv_has ls 4 [(0, .ref a0), (1, .int a1)] := hl
  have J8 : ∀ (v2 : Int32), ∀ (k : Nat) (v3 : Int32) (H : Heap) (locs : List Loc) (ls : Array Slot), HM G Sh M H → SS G s s.heap.size H locs → lv_has ls 4 [(0, .ref a0), (1, .int a1), (2, .int v2), (3, .int v3)] → iter k (fun s => fX4_placeOf_8b n Sh M a0 a1 v2 s) v3 = some r → W p l e rmX4_placeOf s m args below meth c H locs 0 0 (MQ below (QG G Sh M (some (.int r))) args s rmX4_placeOf.cells rmX4_placeOf.slots (AA G)) (F0 m 8 ls []) := by
    intro v2 k
    induction k with
    | zero => intro v3 H locs ls hP hS hl h; exact (iter_0 h).elim
    | succ k ih1 =>
      intro v3 H locs ls hP hS hl h
      obtain ⟨z1, h, hz1⟩ := iter_some h
      replace h : fX4_placeOf_8b n Sh M a0 a1 v2 v3 = some z1 := h
      unfold fX4_placeOf_8b at h
      refine lv_iload_n C.1 C.2.1 dX4_placeOf_8 rfl (lv_at hl 3 rfl) ?_
      refine lv_aload_n C.1 C.2.1 dX4_placeOf_9 rfl (lv_at hl 0 rfl) ?_
      refine lv_iload_n C.1 C.2.1 dX4_placeOf_10 rfl (lv_at hl 2 rfl) ?_
      obtain ⟨r1, hc, h⟩ := bS h
      refine r_V1 C hK hX hb hP hS hl.1 (kX4_kidCount (hT) hc) hT cl_4 wd_321 mo_X4_kidCount wd_322 wd_323 ⟨Nat.le_of_ble_eq_true rfl, Nat.le_of_ble_eq_true rfl⟩ ⟨Nat.le_of_ble_eq_true rfl, Nat.le_of_ble_eq_true rfl⟩ rfl (rest := [.int v3]) rfl (Nat.le_of_ble_eq_true rfl) dX4_placeOf_11 (fun H locs hP hS => ?_)
      refine b_ige (tgt := 35) C dX4_placeOf_14 (by decide) h (fun h => ?_) (fun h => ?_)
      · refine lv_aload_n C.1 C.2.1 dX4_placeOf_17 rfl (lv_at hl 0 rfl) ?_
        refine lv_iload_n C.1 C.2.1 dX4_placeOf_18 rfl (lv_at hl 2 rfl) ?_
        refine lv_iload_n C.1 C.2.1 dX4_placeOf_19 rfl (lv_at hl 3 rfl) ?_
        obtain ⟨r2, hc, h⟩ := bS h
        refine r_V1 C hK hX hb hP hS hl.1 (kX4_kidAt (hT) hc) hT cl_4 wd_325 mo_X4_kidAt wd_326 wd_327 ⟨Nat.le_of_ble_eq_true rfl, Nat.le_of_ble_eq_true rfl⟩ ⟨Nat.le_of_ble_eq_true rfl, Nat.le_of_ble_eq_true rfl⟩ rfl (rest := []) rfl (Nat.le_of_ble_eq_true rfl) dX4_placeOf_20 (fun H locs hP hS => ?_)
        refine lv_iload_n C.1 C.2.1 dX4_placeOf_23 rfl (lv_at hl 1 rfl) ?_
        refine b_ine (tgt := 29) C dX4_placeOf_24 (by decide) h (fun h => ?_) (fun h => ?_)
        · refine lv_iload_n C.1 C.2.1 dX4_placeOf_27 rfl (lv_at hl 3 rfl) ?_
          have e := Option.some.inj h
          rw [← e] at hz1
          replace e := itK_inr hz1
          exact q_i C hlk hP hS hr (by rw [← e]) rfl dX4_placeOf_28
        · refine lv_iinc (v := (v3 + 1)) (lv' := [(3, .int (v3 + 1)), (0, .ref a0), (1, .int a1), (2, .int v2)]) C.1 C.2.1 dX4_placeOf_29 hl (k := 3) rfl rfl (by decide) rfl (fun ls hl => ?_)
          refine lv_goto (tgt := 8) C.1 C.2.1 dX4_placeOf_32 (by decide) ?_
          have e := Option.some.inj h
          rw [← e] at hz1
          exact ih1 ((v3 + 1)) _ _ _ hP hS (lv_sub hl [1, 2, 3, 0] rfl) (itK_inl hz1)
      · refine lv_iconst (v := 0) C.1 C.2.1 dX4_placeOf_35 (by decide) ?_
        have e := Option.some.inj h
        rw [← e] at hz1
        replace e := itK_inr hz1
        exact q_i C hlk hP hS hr (by rw [← e]) rfl dX4_placeOf_36
  unfold fX4_placeOf at h
  refine lv_aload_n C.1 C.2.1 dX4_placeOf_0 rfl (lv_at hl 0 rfl) ?_
  refine lv_iload_n C.1 C.2.1 dX4_placeOf_1 rfl (lv_at hl 1 rfl) ?_
  obtain ⟨r3, hc, h⟩ := bS h
  refine r_V1 C hK hX hb hP hS hl.1 (kX4_parentOf (hT) hc) hT cl_4 wd_305 mo_X4_parentOf wd_306 wd_307 ⟨Nat.le_of_ble_eq_true rfl, Nat.le_of_ble_eq_true rfl⟩ ⟨Nat.le_of_ble_eq_true rfl, Nat.le_of_ble_eq_true rfl⟩ rfl (rest := []) rfl (Nat.le_of_ble_eq_true rfl) dX4_placeOf_2 (fun H locs hP hS => ?_)
  refine lv_istore_n (lv' := [(2, .int r3), (0, .ref a0), (1, .int a1)]) C.1 C.2.1 dX4_placeOf_5 rfl hl (by decide) rfl (fun ls hl => ?_)
  refine lv_iconst (v := 0) C.1 C.2.1 dX4_placeOf_6 (by decide) ?_
  refine lv_istore_n (lv' := [(3, .int 0), (2, .int r3), (0, .ref a0), (1, .int a1)]) C.1 C.2.1 dX4_placeOf_7 rfl hl (by decide) rfl (fun ls hl => ?_)
  exact J8 (r3) n (0) _ _ _ hP hS (lv_sub hl [2, 3, 1, 0] rfl) h
