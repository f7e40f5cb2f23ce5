theorem dX6_open_0 : decode cX6_open 0 = .ok (.aload_n 0, 1) := by decide +kernel
theorem dX6_open_1 : decode cX6_open 1 = .ok (.iload_n 1, 1) := by decide +kernel
theorem dX6_open_2 : decode cX6_open 2 = .ok (.invokevirtual 215, 3) := by decide +kernel
theorem dX6_open_5 : decode cX6_open 5 = .ok (.aload_n 0, 1) := by decide +kernel
theorem dX6_open_6 : decode cX6_open 6 = .ok (.getfield 10, 3) := by decide +kernel
theorem dX6_open_9 : decode cX6_open 9 = .ok (.getfield 27, 3) := by decide +kernel
theorem dX6_open_12 : decode cX6_open 12 = .ok (.iload_n 1, 1) := by decide +kernel
theorem dX6_open_13 : decode cX6_open 13 = .ok (.invokevirtual 218, 3) := by decide +kernel
theorem dX6_open_16 : decode cX6_open 16 = .ok (.ifCond .eq 13, 3) := by decide +kernel
theorem dX6_open_19 : decode cX6_open 19 = .ok (.new 87, 3) := by decide +kernel
theorem dX6_open_22 : decode cX6_open 22 = .ok (.dup, 1) := by decide +kernel
theorem dX6_open_23 : decode cX6_open 23 = .ok (.ldc 221, 2) := by decide +kernel
theorem dX6_open_25 : decode cX6_open 25 = .ok (.invokespecial 91, 3) := by decide +kernel
theorem dX6_open_28 : decode cX6_open 28 = .ok (.athrow, 1) := by decide +kernel
theorem dX6_open_29 : decode cX6_open 29 = .ok (.aload_n 0, 1) := by decide +kernel
theorem dX6_open_30 : decode cX6_open 30 = .ok (.invokevirtual 92, 3) := by decide +kernel
theorem dX6_open_33 : decode cX6_open 33 = .ok (.aload_n 0, 1) := by decide +kernel
theorem dX6_open_34 : decode cX6_open 34 = .ok (.getfield 10, 3) := by decide +kernel
theorem dX6_open_37 : decode cX6_open 37 = .ok (.getfield 27, 3) := by decide +kernel
theorem dX6_open_40 : decode cX6_open 40 = .ok (.iload_n 1, 1) := by decide +kernel
theorem dX6_open_41 : decode cX6_open 41 = .ok (.aload_n 0, 1) := by decide +kernel
theorem dX6_open_42 : decode cX6_open 42 = .ok (.getfield 21, 3) := by decide +kernel
theorem dX6_open_45 : decode cX6_open 45 = .ok (.invokevirtual 203, 3) := by decide +kernel
theorem dX6_open_48 : decode cX6_open 48 = .ok (.invokevirtual 223, 3) := by decide +kernel
theorem dX6_open_51 : decode cX6_open 51 = .ok (.aload_n 0, 1) := by decide +kernel
theorem dX6_open_52 : decode cX6_open 52 = .ok (.getfield 21, 3) := by decide +kernel
theorem dX6_open_55 : decode cX6_open 55 = .ok (.invokevirtual 199, 3) := by decide +kernel
theorem dX6_open_58 : decode cX6_open 58 = .ok (.aload_n 0, 1) := by decide +kernel
theorem dX6_open_59 : decode cX6_open 59 = .ok (.getfield 21, 3) := by decide +kernel
theorem dX6_open_62 : decode cX6_open 62 = .ok (.iconst 0, 1) := by decide +kernel
theorem dX6_open_63 : decode cX6_open 63 = .ok (.invokevirtual 202, 3) := by decide +kernel
theorem dX6_open_66 : decode cX6_open 66 = .ok (.istore_n 2, 1) := by decide +kernel
theorem dX6_open_67 : decode cX6_open 67 = .ok (.aload_n 0, 1) := by decide +kernel
theorem dX6_open_68 : decode cX6_open 68 = .ok (.getfield 10, 3) := by decide +kernel
theorem dX6_open_71 : decode cX6_open 71 = .ok (.getfield 27, 3) := by decide +kernel
theorem dX6_open_74 : decode cX6_open 74 = .ok (.iload_n 2, 1) := by decide +kernel
theorem dX6_open_75 : decode cX6_open 75 = .ok (.iload_n 1, 1) := by decide +kernel
theorem dX6_open_76 : decode cX6_open 76 = .ok (.invokevirtual 116, 3) := by decide +kernel
theorem dX6_open_79 : decode cX6_open 79 = .ok (.ifCond .eq 18, 3) := by decide +kernel
theorem dX6_open_82 : decode cX6_open 82 = .ok (.aload_n 0, 1) := by decide +kernel
theorem dX6_open_83 : decode cX6_open 83 = .ok (.getfield 10, 3) := by decide +kernel
theorem dX6_open_86 : decode cX6_open 86 = .ok (.iload_n 2, 1) := by decide +kernel
theorem dX6_open_87 : decode cX6_open 87 = .ok (.aload_n 0, 1) := by decide +kernel
theorem dX6_open_88 : decode cX6_open 88 = .ok (.getfield 55, 3) := by decide +kernel
theorem dX6_open_91 : decode cX6_open 91 = .ok (.invokevirtual 208, 3) := by decide +kernel
theorem dX6_open_94 : decode cX6_open 94 = .ok (.goto 11, 3) := by decide +kernel
theorem dX6_open_97 : decode cX6_open 97 = .ok (.aload_n 0, 1) := by decide +kernel
theorem dX6_open_98 : decode cX6_open 98 = .ok (.getfield 10, 3) := by decide +kernel
theorem dX6_open_101 : decode cX6_open 101 = .ok (.iconst (-1), 1) := by decide +kernel
theorem dX6_open_102 : decode cX6_open 102 = .ok (.putfield 226, 3) := by decide +kernel
theorem dX6_open_105 : decode cX6_open 105 = .ok (.aload_n 0, 1) := by decide +kernel
theorem dX6_open_106 : decode cX6_open 106 = .ok (.getfield 21, 3) := by decide +kernel
theorem dX6_open_109 : decode cX6_open 109 = .ok (.invokevirtual 203, 3) := by decide +kernel
theorem dX6_open_112 : decode cX6_open 112 = .ok (.ireturn, 1) := by decide +kernel
abbrev rmX6_open : Room := { frames := 66, cells := 3, slots := 18, locals := 1665 }
noncomputable def fX6_open_105 (n : Nat) (Sh : Sp) (a0 : Nat) (a1 : Int32) (M : Mm) : Option ((String ⊕ Int32) × Mm) :=
  tF M a0 1 fun b1 =>
  chk (Sh b1 = some (.inl 2)) <|
  (fX2_focusNow n Sh M b1).bind fun r2 =>
  some (Sum.inr r2, M)
noncomputable def fX6_open (n : Nat) (Sh : Sp) (M : Mm) (a0 : Nat) (a1 : Int32) : Option ((String ⊕ Int32) × Mm) :=
  xb (fX6_requireDialog n Sh M a0 a1) (fun E => some (Sum.inl E, M)) <|
  tF M a0 0 fun b5 =>
  gF Sh M b5 3 0 fun b6 =>
  chk (Sh b6 = some (.inl 4)) <|
  (fX4_isOpen n Sh M b6 a1).bind fun r7 =>
  if r7 = 0 then
    (fX6_keepRecord n Sh M a0).bind fun r8 =>
    tF r8 a0 0 fun b9 =>
    gF Sh r8 b9 3 0 fun b10 =>
    tF r8 a0 1 fun b11 =>
    chk (Sh b11 = some (.inl 2)) <|
    (fX2_focusNow n Sh r8 b11).bind fun r12 =>
    chk (Sh b10 = some (.inl 4)) <|
    (fX4_openDialog n Sh r8 b10 a1 r12).bind fun r13 =>
    tF r13 a0 1 fun b14 =>
    chk (Sh b14 = some (.inl 2)) <|
    (fX2_fill n Sh r13 b14).bind fun r15 =>
    tF r15 a0 1 fun b16 =>
    chk (Sh b16 = some (.inl 2)) <|
    (fX2_at n Sh r15 b16 0).bind fun r17 =>
    tF r15 a0 0 fun b18 =>
    gF Sh r15 b18 3 0 fun b19 =>
    chk (Sh b19 = some (.inl 4)) <|
    (fX4_liesBelow n Sh r15 b19 r17 a1).bind fun r20 =>
    if r20 = 0 then
      tF r15 a0 0 fun b21 =>
      pI Sh r15 b21 3 3 (-1) fun M22 =>
      fX6_open_105 n Sh a0 a1 M22
    else
      tF r15 a0 0 fun b23 =>
      tF r15 a0 6 fun b24 =>
      chk (Sh b23 = some (.inl 3)) <|
      (fX3_giveFocus n Sh r15 b23 r17 b24).bind fun r25 =>
      fX6_open_105 n Sh a0 a1 r25
  else
    some (Sum.inl "java/lang/IllegalStateException", M)
set_option maxRecDepth 100000 in
set_option maxHeartbeats 4000000 in
theorem kX6_open {l : Launch} {G : Gt} {n : Nat} {Sh : Sp} {M : Mm} {a0 : Nat} {a1 : Int32} (hT : Sh a0 = some (.inl 6)) (hfl : l.stackTraces = false) {r : ((String ⊕ Int32) × Mm)} (h : fX6_open n Sh M a0 a1 = some r) : CtX l yX6_open cX6_open 3 (some .int) rmX6_open G Sh M [.ref a0, .int a1] (rsI r.1) r.2 := by
  refine CtX.of (by decide) (Nat.le_of_ble_eq_true rfl) ?_
  intro p e s m args below meth c ls C hK hX hP hS hb hlk hr hno hl
  replace hl : lv_has ls 3 [(0, .ref a0), (1, .int a1)] := hl
  have J105 : ∀ (M : Mm) (H : Heap) (locs : List Loc) (ls : Array Slot), HM G Sh M H → SS G s s.heap.size H locs → lv_has ls 3 [(0, .ref a0), (1, .int a1)] → fX6_open_105 n Sh a0 a1 M = some r → W p l e rmX6_open s m args below meth c H locs 2 12 (vx_MQ below (QX G Sh (rsI r.1) r.2) (XX G Sh (rsI r.1) r.2) args s rmX6_open.cells rmX6_open.slots (AA G)) (F0 m 105 ls []) := by
    intro M H locs ls hP hS hl h
    unfold fX6_open_105 at h
    refine lv_aload_n C.1 C.2.1 dX6_open_105 rfl (lv_at hl 0 rfl) ?_
    refine r_tF C hK hP hT cl_6 (k := 1) (by decide) wd_265 rfl dX6_open_106 h (fun b1 h => ?_)
    obtain ⟨hs, h⟩ := chk_some h
    obtain ⟨r2, hc, h⟩ := bS h
    refine r_V1 C hK hX hb hP hS hl.1 (kX2_focusNow (hs) hc) hs cl_2 wd_382 mo_X2_focusNow wd_383 wd_384 ⟨Nat.le_of_ble_eq_true rfl, Nat.le_of_ble_eq_true rfl⟩ ⟨Nat.le_of_ble_eq_true rfl, Nat.le_of_ble_eq_true rfl⟩ rfl (rest := []) rfl (Nat.le_of_ble_eq_true rfl) dX6_open_109 (fun H locs hP hS => ?_)
    have e := Option.some.inj h
    refine W.widen (k := 3) (n := 18) (Nat.le_of_ble_eq_true rfl) (Nat.le_of_ble_eq_true rfl) ?_
    exact x_i C hlk hP hS hr e dX6_open_112
  unfold fX6_open at h
  refine lv_aload_n C.1 C.2.1 dX6_open_0 rfl (lv_at hl 0 rfl) ?_
  refine lv_iload_n C.1 C.2.1 dX6_open_1 rfl (lv_at hl 1 rfl) ?_
  obtain ⟨z4, hc, hE, h⟩ := xb_some h
  refine r_VX0 C hno hlk hK hX hb hP hS hl.1 (kX6_requireDialog hT hfl hc) hT cl_6 wd_981 mo_X6_requireDialog wd_983 wd_16 ⟨Nat.le_of_ble_eq_true rfl, Nat.le_of_ble_eq_true rfl⟩ ⟨Nat.le_of_ble_eq_true rfl, Nat.le_of_ble_eq_true rfl⟩ rfl (rest := []) rfl (Nat.le_of_ble_eq_true rfl) dX6_open_2 (k1 := 2) (k2 := 12) ⟨Nat.le_of_ble_eq_true rfl, Nat.le_of_ble_eq_true rfl⟩ ⟨Nat.le_of_ble_eq_true rfl, Nat.le_of_ble_eq_true rfl⟩ (fun E q => by have e := Option.some.inj (hE E q); rw [← e]; exact ⟨rfl, rfl⟩) (fun H locs hz hP hS => ?_)
  replace h := h hz
  refine lv_aload_n C.1 C.2.1 dX6_open_5 rfl (lv_at hl 0 rfl) ?_
  refine r_tF C hK hP hT cl_6 (k := 0) (by decide) wd_264 rfl dX6_open_6 h (fun b5 h => ?_)
  refine r_gFN C hK hP cl_3 (k := 0) (by decide) (hX.nw wd_209) rfl dX6_open_9 h (fun b6 h => ?_)
  refine lv_iload_n C.1 C.2.1 dX6_open_12 rfl (lv_at hl 1 rfl) ?_
  obtain ⟨hs, h⟩ := chk_some h
  obtain ⟨r7, hc, h⟩ := bS h
  refine r_V1 C hK hX hb hP hS hl.1 (kX4_isOpen (hs) hc) hs cl_4 wd_986 mo_X4_isOpen wd_343 wd_344 ⟨Nat.le_of_ble_eq_true rfl, Nat.le_of_ble_eq_true rfl⟩ ⟨Nat.le_of_ble_eq_true rfl, Nat.le_of_ble_eq_true rfl⟩ rfl (rest := []) rfl (Nat.le_of_ble_eq_true rfl) dX6_open_13 (fun H locs hP hS => ?_)
  refine b_eq (tgt := 29) C dX6_open_16 (by decide) h (fun h => ?_) (fun h => ?_)
  · refine lv_aload_n C.1 C.2.1 dX6_open_29 rfl (lv_at hl 0 rfl) ?_
    obtain ⟨r8, hc, h⟩ := bS h
    refine r_V0 C hK hX hb hP hS hl.1 (kX6_keepRecord (hT) hc) hT cl_6 wd_394 mo_X6_keepRecord wd_396 wd_3 ⟨Nat.le_of_ble_eq_true rfl, Nat.le_of_ble_eq_true rfl⟩ ⟨Nat.le_of_ble_eq_true rfl, Nat.le_of_ble_eq_true rfl⟩ rfl (rest := []) rfl (Nat.le_of_ble_eq_true rfl) dX6_open_30 (fun H locs hP hS => ?_)
    refine lv_aload_n C.1 C.2.1 dX6_open_33 rfl (lv_at hl 0 rfl) ?_
    refine r_tF C hK hP hT cl_6 (k := 0) (by decide) wd_264 rfl dX6_open_34 h (fun b9 h => ?_)
    refine r_gFN C hK hP cl_3 (k := 0) (by decide) (hX.nw wd_209) rfl dX6_open_37 h (fun b10 h => ?_)
    refine lv_iload_n C.1 C.2.1 dX6_open_40 rfl (lv_at hl 1 rfl) ?_
    refine lv_aload_n C.1 C.2.1 dX6_open_41 rfl (lv_at hl 0 rfl) ?_
    refine r_tF C hK hP hT cl_6 (k := 1) (by decide) wd_265 rfl dX6_open_42 h (fun b11 h => ?_)
    obtain ⟨hs, h⟩ := chk_some h
    obtain ⟨r12, hc, h⟩ := bS h
    refine r_V1 C hK hX hb hP hS hl.1 (kX2_focusNow (hs) hc) hs cl_2 wd_382 mo_X2_focusNow wd_383 wd_384 ⟨Nat.le_of_ble_eq_true rfl, Nat.le_of_ble_eq_true rfl⟩ ⟨Nat.le_of_ble_eq_true rfl, Nat.le_of_ble_eq_true rfl⟩ rfl (rest := [.int a1, .ref b10]) rfl (Nat.le_of_ble_eq_true rfl) dX6_open_45 (fun H locs hP hS => ?_)
    obtain ⟨hs, h⟩ := chk_some h
    obtain ⟨r13, hc, h⟩ := bS h
    refine r_V0 C hK hX hb hP hS hl.1 (kX4_openDialog (hs) hc) hs cl_4 wd_988 mo_X4_openDialog wd_989 wd_990 ⟨Nat.le_of_ble_eq_true rfl, Nat.le_of_ble_eq_true rfl⟩ ⟨Nat.le_of_ble_eq_true rfl, Nat.le_of_ble_eq_true rfl⟩ rfl (rest := []) rfl (Nat.le_of_ble_eq_true rfl) dX6_open_48 (fun H locs hP hS => ?_)
    refine lv_aload_n C.1 C.2.1 dX6_open_51 rfl (lv_at hl 0 rfl) ?_
    refine r_tF C hK hP hT cl_6 (k := 1) (by decide) wd_265 rfl dX6_open_52 h (fun b14 h => ?_)
    obtain ⟨hs, h⟩ := chk_some h
    obtain ⟨r15, hc, h⟩ := bS h
    refine r_V0 C hK hX hb hP hS hl.1 (kX2_fill (hs) hc) hs cl_2 wd_333 mo_X2_fill wd_334 wd_335 ⟨Nat.le_of_ble_eq_true rfl, Nat.le_of_ble_eq_true rfl⟩ ⟨Nat.le_of_ble_eq_true rfl, Nat.le_of_ble_eq_true rfl⟩ rfl (rest := []) rfl (Nat.le_of_ble_eq_true rfl) dX6_open_55 (fun H locs hP hS => ?_)
    refine lv_aload_n C.1 C.2.1 dX6_open_58 rfl (lv_at hl 0 rfl) ?_
    refine r_tF C hK hP hT cl_6 (k := 1) (by decide) wd_265 rfl dX6_open_59 h (fun b16 h => ?_)
    refine lv_iconst (v := 0) C.1 C.2.1 dX6_open_62 (by decide) ?_
    obtain ⟨hs, h⟩ := chk_some h
    obtain ⟨r17, hc, h⟩ := bS h
    refine r_V1 C hK hX hb hP hS hl.1 (kX2_at (hs) hc) hs cl_2 wd_374 mo_X2_at wd_375 wd_376 ⟨Nat.le_of_ble_eq_true rfl, Nat.le_of_ble_eq_true rfl⟩ ⟨Nat.le_of_ble_eq_true rfl, Nat.le_of_ble_eq_true rfl⟩ rfl (rest := []) rfl (Nat.le_of_ble_eq_true rfl) dX6_open_63 (fun H locs hP hS => ?_)
    refine lv_istore_n (lv' := [(2, .int r17), (0, .ref a0), (1, .int a1)]) C.1 C.2.1 dX6_open_66 rfl hl (by decide) rfl (fun ls hl => ?_)
    refine lv_aload_n C.1 C.2.1 dX6_open_67 rfl (lv_at hl 1 rfl) ?_
    refine r_tF C hK hP hT cl_6 (k := 0) (by decide) wd_264 rfl dX6_open_68 h (fun b18 h => ?_)
    refine r_gFN C hK hP cl_3 (k := 0) (by decide) (hX.nw wd_209) rfl dX6_open_71 h (fun b19 h => ?_)
    refine lv_iload_n C.1 C.2.1 dX6_open_74 rfl (lv_at hl 0 rfl) ?_
    refine lv_iload_n C.1 C.2.1 dX6_open_75 rfl (lv_at hl 2 rfl) ?_
    obtain ⟨hs, h⟩ := chk_some h
    obtain ⟨r20, hc, h⟩ := bS h
    refine r_V1 C hK hX hb hP hS hl.1 (kX4_liesBelow (hs) hc) hs cl_4 wd_828 mo_X4_liesBelow wd_302 wd_303 ⟨Nat.le_of_ble_eq_true rfl, Nat.le_of_ble_eq_true rfl⟩ ⟨Nat.le_of_ble_eq_true rfl, Nat.le_of_ble_eq_true rfl⟩ rfl (rest := []) rfl (Nat.le_of_ble_eq_true rfl) dX6_open_76 (fun H locs hP hS => ?_)
    refine b_eq (tgt := 97) C dX6_open_79 (by decide) h (fun h => ?_) (fun h => ?_)
    · refine lv_aload_n C.1 C.2.1 dX6_open_97 rfl (lv_at hl 1 rfl) ?_
      refine r_tF C hK hP hT cl_6 (k := 0) (by decide) wd_264 rfl dX6_open_98 h (fun b21 h => ?_)
      refine lv_iconst (v := (-1)) C.1 C.2.1 dX6_open_101 (by decide) ?_
      refine r_pIN C hK hP hS cl_3 (k := 3) (by decide) (hX.nw wd_217) rfl rfl (tyX3_ok 3 (by decide)) dX6_open_102 h (fun M22 H locs h hP hS => ?_)
      exact J105 (M22) _ _ _ hP hS (lv_sub hl [1, 2] rfl) h
    · refine lv_aload_n C.1 C.2.1 dX6_open_82 rfl (lv_at hl 1 rfl) ?_
      refine r_tF C hK hP hT cl_6 (k := 0) (by decide) wd_264 rfl dX6_open_83 h (fun b23 h => ?_)
      refine lv_iload_n C.1 C.2.1 dX6_open_86 rfl (lv_at hl 0 rfl) ?_
      refine lv_aload_n C.1 C.2.1 dX6_open_87 rfl (lv_at hl 1 rfl) ?_
      refine r_tF C hK hP hT cl_6 (k := 6) (by decide) wd_270 rfl dX6_open_88 h (fun b24 h => ?_)
      obtain ⟨hs, h⟩ := chk_some h
      obtain ⟨r25, hc, h⟩ := bS h
      refine r_V0 C hK hX hb hP hS hl.1 (kX3_giveFocus (hs) hc) hs cl_3 wd_433 mo_X3_giveFocus wd_434 wd_435 ⟨Nat.le_of_ble_eq_true rfl, Nat.le_of_ble_eq_true rfl⟩ ⟨Nat.le_of_ble_eq_true rfl, Nat.le_of_ble_eq_true rfl⟩ rfl (rest := []) rfl (Nat.le_of_ble_eq_true rfl) dX6_open_91 (fun H locs hP hS => ?_)
      refine lv_goto (tgt := 105) C.1 C.2.1 dX6_open_94 (by decide) ?_
      exact J105 (r25) _ _ _ hP hS (lv_sub hl [1, 2] rfl) h
  · have e := Option.some.inj h
    subst e
    exact x_new (rest := []) (text := "the dialog is open") C hfl hno hX hP hS hlk hl.1 (by decide +kernel) wd_765 wd_88 (by decide +kernel) xw_91 xg_91 dX6_open_19 dX6_open_22 dX6_open_23 dX6_open_25 dX6_open_28 (by decide) (Nat.le_of_ble_eq_true rfl) (Nat.le_of_ble_eq_true rfl) (Nat.le_of_ble_eq_true rfl) (Nat.le_of_ble_eq_true rfl) (Nat.le_of_ble_eq_true rfl) rfl
theorem dX6_close_0 : decode cX6_close 0 = .ok (.aload_n 0, 1) := by decide +kernel
theorem dX6_close_1 : decode cX6_close 1 = .ok (.iload_n 1, 1) := by decide +kernel
theorem dX6_close_2 : decode cX6_close 2 = .ok (.invokevirtual 215, 3) := by decide +kernel
theorem dX6_close_5 : decode cX6_close 5 = .ok (.aload_n 0, 1) := by decide +kernel
theorem dX6_close_6 : decode cX6_close 6 = .ok (.getfield 10, 3) := by decide +kernel
theorem dX6_close_9 : decode cX6_close 9 = .ok (.getfield 27, 3) := by decide +kernel
theorem dX6_close_12 : decode cX6_close 12 = .ok (.iload_n 1, 1) := by decide +kernel
theorem dX6_close_13 : decode cX6_close 13 = .ok (.invokevirtual 218, 3) := by decide +kernel
theorem dX6_close_16 : decode cX6_close 16 = .ok (.ifCond .ne 13, 3) := by decide +kernel
theorem dX6_close_19 : decode cX6_close 19 = .ok (.new 87, 3) := by decide +kernel
theorem dX6_close_22 : decode cX6_close 22 = .ok (.dup, 1) := by decide +kernel
theorem dX6_close_23 : decode cX6_close 23 = .ok (.ldc 229, 2) := by decide +kernel
theorem dX6_close_25 : decode cX6_close 25 = .ok (.invokespecial 91, 3) := by decide +kernel
theorem dX6_close_28 : decode cX6_close 28 = .ok (.athrow, 1) := by decide +kernel
theorem dX6_close_29 : decode cX6_close 29 = .ok (.aload_n 0, 1) := by decide +kernel
theorem dX6_close_30 : decode cX6_close 30 = .ok (.invokevirtual 92, 3) := by decide +kernel
theorem dX6_close_33 : decode cX6_close 33 = .ok (.aload_n 0, 1) := by decide +kernel
theorem dX6_close_34 : decode cX6_close 34 = .ok (.getfield 10, 3) := by decide +kernel
theorem dX6_close_37 : decode cX6_close 37 = .ok (.getfield 27, 3) := by decide +kernel
theorem dX6_close_40 : decode cX6_close 40 = .ok (.iload_n 1, 1) := by decide +kernel
theorem dX6_close_41 : decode cX6_close 41 = .ok (.invokevirtual 231, 3) := by decide +kernel
theorem dX6_close_44 : decode cX6_close 44 = .ok (.aload_n 0, 1) := by decide +kernel
theorem dX6_close_45 : decode cX6_close 45 = .ok (.getfield 10, 3) := by decide +kernel
theorem dX6_close_48 : decode cX6_close 48 = .ok (.getfield 27, 3) := by decide +kernel
theorem dX6_close_51 : decode cX6_close 51 = .ok (.iload_n 1, 1) := by decide +kernel
theorem dX6_close_52 : decode cX6_close 52 = .ok (.invokevirtual 234, 3) := by decide +kernel
theorem dX6_close_55 : decode cX6_close 55 = .ok (.istore_n 2, 1) := by decide +kernel
theorem dX6_close_56 : decode cX6_close 56 = .ok (.aload_n 0, 1) := by decide +kernel
theorem dX6_close_57 : decode cX6_close 57 = .ok (.getfield 21, 3) := by decide +kernel
theorem dX6_close_60 : decode cX6_close 60 = .ok (.iload_n 2, 1) := by decide +kernel
theorem dX6_close_61 : decode cX6_close 61 = .ok (.invokevirtual 195, 3) := by decide +kernel
theorem dX6_close_64 : decode cX6_close 64 = .ok (.ifCond .eq 15, 3) := by decide +kernel
theorem dX6_close_67 : decode cX6_close 67 = .ok (.aload_n 0, 1) := by decide +kernel
theorem dX6_close_68 : decode cX6_close 68 = .ok (.getfield 10, 3) := by decide +kernel
theorem dX6_close_71 : decode cX6_close 71 = .ok (.iload_n 2, 1) := by decide +kernel
theorem dX6_close_72 : decode cX6_close 72 = .ok (.aload_n 0, 1) := by decide +kernel
theorem dX6_close_73 : decode cX6_close 73 = .ok (.getfield 55, 3) := by decide +kernel
theorem dX6_close_76 : decode cX6_close 76 = .ok (.invokevirtual 208, 3) := by decide +kernel
theorem dX6_close_79 : decode cX6_close 79 = .ok (.aload_n 0, 1) := by decide +kernel
theorem dX6_close_80 : decode cX6_close 80 = .ok (.getfield 21, 3) := by decide +kernel
theorem dX6_close_83 : decode cX6_close 83 = .ok (.invokevirtual 203, 3) := by decide +kernel
theorem dX6_close_86 : decode cX6_close 86 = .ok (.ireturn, 1) := by decide +kernel
abbrev rmX6_close : Room := { frames := 66, cells := 3, slots := 18, locals := 1665 }
noncomputable def fX6_close_79 (n : Nat) (Sh : Sp) (a0 : Nat) (a1 : Int32) (M : Mm) : Option ((String ⊕ Int32) × Mm) :=
  tF M a0 1 fun b1 =>
  chk (Sh b1 = some (.inl 2)) <|
  (fX2_focusNow n Sh M b1).bind fun r2 =>
  some (Sum.inr r2, M)
noncomputable def fX6_close (n : Nat) (Sh : Sp) (M : Mm) (a0 : Nat) (a1 : Int32) : Option ((String ⊕ Int32) × Mm) :=
  xb (fX6_requireDialog n Sh M a0 a1) (fun E => some (Sum.inl E, M)) <|
  tF M a0 0 fun b5 =>
  gF Sh M b5 3 0 fun b6 =>
  chk (Sh b6 = some (.inl 4)) <|
  (fX4_isOpen n Sh M b6 a1).bind fun r7 =>
  if r7 = 0 then
    some (Sum.inl "java/lang/IllegalStateException", M)
  else
    (fX6_keepRecord n Sh M a0).bind fun r8 =>
    tF r8 a0 0 fun b9 =>
    gF Sh r8 b9 3 0 fun b10 =>
    chk (Sh b10 = some (.inl 4)) <|
    (fX4_closeDialog n Sh r8 b10 a1).bind fun r11 =>
    tF r11 a0 0 fun b12 =>
    gF Sh r11 b12 3 0 fun b13 =>
    chk (Sh b13 = some (.inl 4)) <|
    (fX4_returnOf n Sh r11 b13 a1).bind fun r14 =>
    tF r11 a0 1 fun b15 =>
    chk (Sh b15 = some (.inl 2)) <|
    (fX2_admits n Sh r11 b15 r14).bind fun r16 =>
    if r16 = 0 then
      fX6_close_79 n Sh a0 a1 r11
    else
      tF r11 a0 0 fun b17 =>
      tF r11 a0 6 fun b18 =>
      chk (Sh b17 = some (.inl 3)) <|
      (fX3_giveFocus n Sh r11 b17 r14 b18).bind fun r19 =>
      fX6_close_79 n Sh a0 a1 r19
set_option maxRecDepth 100000 in
set_option maxHeartbeats 4000000 in
theorem kX6_close {l : Launch} {G : Gt} {n : Nat} {Sh : Sp} {M : Mm} {a0 : Nat} {a1 : Int32} (hT : Sh a0 = some (.inl 6)) (hfl : l.stackTraces = false) {r : ((String ⊕ Int32) × Mm)} (h : fX6_close n Sh M a0 a1 = some r) : CtX l yX6_close cX6_close 3 (some .int) rmX6_close G Sh M [.ref a0, .int a1] (rsI r.1) r.2 := by
  refine CtX.of (by decide) (Nat.le_of_ble_eq_true rfl) ?_
  intro p e s m args below meth c ls C hK hX hP hS hb hlk hr hno hl
  replace hl : lv_has ls 3 [(0, .ref a0), (1, .int a1)] := hl
  have J79 : ∀ (M : Mm) (H : Heap) (locs : List Loc) (ls : Array Slot), HM G Sh M H → SS G s s.heap.size H locs → lv_has ls 3 [(0, .ref a0), (1, .int a1)] → fX6_close_79 n Sh a0 a1 M = some r → W p l e rmX6_close s m args below meth c H locs 2 12 (vx_MQ below (QX G Sh (rsI r.1) r.2) (XX G Sh (rsI r.1) r.2) args s rmX6_close.cells rmX6_close.slots (AA G)) (F0 m 79 ls []) := by
    intro M H locs ls hP hS hl h
    unfold fX6_close_79 at h
    refine lv_aload_n C.1 C.2.1 dX6_close_79 rfl (lv_at hl 0 rfl) ?_
    refine r_tF C hK hP hT cl_6 (k := 1) (by decide) wd_265 rfl dX6_close_80 h (fun b1 h => ?_)
    obtain ⟨hs, h⟩ := chk_some h
    obtain ⟨r2, hc, h⟩ := bS h
    refine r_V1 C hK hX hb hP hS hl.1 (kX2_focusNow (hs) hc) hs cl_2 wd_382 mo_X2_focusNow wd_383 wd_384 ⟨Nat.le_of_ble_eq_true rfl, Nat.le_of_ble_eq_true rfl⟩ ⟨Nat.le_of_ble_eq_true rfl, Nat.le_of_ble_eq_true rfl⟩ rfl (rest := []) rfl (Nat.le_of_ble_eq_true rfl) dX6_close_83 (fun H locs hP hS => ?_)
    have e := Option.some.inj h
    refine W.widen (k := 3) (n := 18) (Nat.le_of_ble_eq_true rfl) (Nat.le_of_ble_eq_true rfl) ?_
    exact x_i C hlk hP hS hr e dX6_close_86
  unfold fX6_close at h
  refine lv_aload_n C.1 C.2.1 dX6_close_0 rfl (lv_at hl 0 rfl) ?_
  refine lv_iload_n C.1 C.2.1 dX6_close_1 rfl (lv_at hl 1 rfl) ?_
  obtain ⟨z4, hc, hE, h⟩ := xb_some h
  refine r_VX0 C hno hlk hK hX hb hP hS hl.1 (kX6_requireDialog hT hfl hc) hT cl_6 wd_981 mo_X6_requireDialog wd_983 wd_16 ⟨Nat.le_of_ble_eq_true rfl, Nat.le_of_ble_eq_true rfl⟩ ⟨Nat.le_of_ble_eq_true rfl, Nat.le_of_ble_eq_true rfl⟩ rfl (rest := []) rfl (Nat.le_of_ble_eq_true rfl) dX6_close_2 (k1 := 2) (k2 := 12) ⟨Nat.le_of_ble_eq_true rfl, Nat.le_of_ble_eq_true rfl⟩ ⟨Nat.le_of_ble_eq_true rfl, Nat.le_of_ble_eq_true rfl⟩ (fun E q => by have e := Option.some.inj (hE E q); rw [← e]; exact ⟨rfl, rfl⟩) (fun H locs hz hP hS => ?_)
  replace h := h hz
  refine lv_aload_n C.1 C.2.1 dX6_close_5 rfl (lv_at hl 0 rfl) ?_
  refine r_tF C hK hP hT cl_6 (k := 0) (by decide) wd_264 rfl dX6_close_6 h (fun b5 h => ?_)
  refine r_gFN C hK hP cl_3 (k := 0) (by decide) (hX.nw wd_209) rfl dX6_close_9 h (fun b6 h => ?_)
  refine lv_iload_n C.1 C.2.1 dX6_close_12 rfl (lv_at hl 1 rfl) ?_
  obtain ⟨hs, h⟩ := chk_some h
  obtain ⟨r7, hc, h⟩ := bS h
  refine r_V1 C hK hX hb hP hS hl.1 (kX4_isOpen (hs) hc) hs cl_4 wd_986 mo_X4_isOpen wd_343 wd_344 ⟨Nat.le_of_ble_eq_true rfl, Nat.le_of_ble_eq_true rfl⟩ ⟨Nat.le_of_ble_eq_true rfl, Nat.le_of_ble_eq_true rfl⟩ rfl (rest := []) rfl (Nat.le_of_ble_eq_true rfl) dX6_close_13 (fun H locs hP hS => ?_)
  refine b_ne (tgt := 29) C dX6_close_16 (by decide) h (fun h => ?_) (fun h => ?_)
  · have e := Option.some.inj h
    subst e
    exact x_new (rest := []) (text := "the dialog is closed") C hfl hno hX hP hS hlk hl.1 (by decide +kernel) wd_765 wd_88 (by decide +kernel) xw_91 xg_91 dX6_close_19 dX6_close_22 dX6_close_23 dX6_close_25 dX6_close_28 (by decide) (Nat.le_of_ble_eq_true rfl) (Nat.le_of_ble_eq_true rfl) (Nat.le_of_ble_eq_true rfl) (Nat.le_of_ble_eq_true rfl) (Nat.le_of_ble_eq_true rfl) rfl
  · refine lv_aload_n C.1 C.2.1 dX6_close_29 rfl (lv_at hl 0 rfl) ?_
    obtain ⟨r8, hc, h⟩ := bS h
    refine r_V0 C hK hX hb hP hS hl.1 (kX6_keepRecord (hT) hc) hT cl_6 wd_394 mo_X6_keepRecord wd_396 wd_3 ⟨Nat.le_of_ble_eq_true rfl, Nat.le_of_ble_eq_true rfl⟩ ⟨Nat.le_of_ble_eq_true rfl, Nat.le_of_ble_eq_true rfl⟩ rfl (rest := []) rfl (Nat.le_of_ble_eq_true rfl) dX6_close_30 (fun H locs hP hS => ?_)
    refine lv_aload_n C.1 C.2.1 dX6_close_33 rfl (lv_at hl 0 rfl) ?_
    refine r_tF C hK hP hT cl_6 (k := 0) (by decide) wd_264 rfl dX6_close_34 h (fun b9 h => ?_)
    refine r_gFN C hK hP cl_3 (k := 0) (by decide) (hX.nw wd_209) rfl dX6_close_37 h (fun b10 h => ?_)
    refine lv_iload_n C.1 C.2.1 dX6_close_40 rfl (lv_at hl 1 rfl) ?_
    obtain ⟨hs, h⟩ := chk_some h
    obtain ⟨r11, hc, h⟩ := bS h
    refine r_V0 C hK hX hb hP hS hl.1 (kX4_closeDialog (hs) hc) hs cl_4 wd_1000 mo_X4_closeDialog wd_1001 wd_1002 ⟨Nat.le_of_ble_eq_true rfl, Nat.le_of_ble_eq_true rfl⟩ ⟨Nat.le_of_ble_eq_true rfl, Nat.le_of_ble_eq_true rfl⟩ rfl (rest := []) rfl (Nat.le_of_ble_eq_true rfl) dX6_close_41 (fun H locs hP hS => ?_)
    refine lv_aload_n C.1 C.2.1 dX6_close_44 rfl (lv_at hl 0 rfl) ?_
    refine r_tF C hK hP hT cl_6 (k := 0) (by decide) wd_264 rfl dX6_close_45 h (fun b12 h => ?_)
    refine r_gFN C hK hP cl_3 (k := 0) (by decide) (hX.nw wd_209) rfl dX6_close_48 h (fun b13 h => ?_)
    refine lv_iload_n C.1 C.2.1 dX6_close_51 rfl (lv_at hl 1 rfl) ?_
    obtain ⟨hs, h⟩ := chk_some h
    obtain ⟨r14, hc, h⟩ := bS h
    refine r_V1 C hK hX hb hP hS hl.1 (kX4_returnOf (hs) hc) hs cl_4 wd_1004 mo_X4_returnOf wd_1005 wd_1006 ⟨Nat.le_of_ble_eq_true rfl, Nat.le_of_ble_eq_true rfl⟩ ⟨Nat.le_of_ble_eq_true rfl, Nat.le_of_ble_eq_true rfl⟩ rfl (rest := []) rfl (Nat.le_of_ble_eq_true rfl) dX6_close_52 (fun H locs hP hS => ?_)
    refine lv_istore_n (lv' := [(2, .int r14), (0, .ref a0), (1, .int a1)]) C.1 C.2.1 dX6_close_55 rfl hl (by decide) rfl (fun ls hl => ?_)
    refine lv_aload_n C.1 C.2.1 dX6_close_56 rfl (lv_at hl 1 rfl) ?_
    refine r_tF C hK hP hT cl_6 (k := 1) (by decide) wd_265 rfl dX6_close_57 h (fun b15 h => ?_)
    refine lv_iload_n C.1 C.2.1 dX6_close_60 rfl (lv_at hl 0 rfl) ?_
    obtain ⟨hs, h⟩ := chk_some h
    obtain ⟨r16, hc, h⟩ := bS h
    refine r_V1 C hK hX hb hP hS hl.1 (kX2_admits (hs) hc) hs cl_2 wd_965 mo_X2_admits wd_387 wd_388 ⟨Nat.le_of_ble_eq_true rfl, Nat.le_of_ble_eq_true rfl⟩ ⟨Nat.le_of_ble_eq_true rfl, Nat.le_of_ble_eq_true rfl⟩ rfl (rest := []) rfl (Nat.le_of_ble_eq_true rfl) dX6_close_61 (fun H locs hP hS => ?_)
    refine b_eq (tgt := 79) C dX6_close_64 (by decide) h (fun h => ?_) (fun h => ?_)
    · exact J79 (r11) _ _ _ hP hS (lv_sub hl [1, 2] rfl) h
    · refine lv_aload_n C.1 C.2.1 dX6_close_67 rfl (lv_at hl 1 rfl) ?_
      refine r_tF C hK hP hT cl_6 (k := 0) (by decide) wd_264 rfl dX6_close_68 h (fun b17 h => ?_)
      refine lv_iload_n C.1 C.2.1 dX6_close_71 rfl (lv_at hl 0 rfl) ?_
      refine lv_aload_n C.1 C.2.1 dX6_close_72 rfl (lv_at hl 1 rfl) ?_
      refine r_tF C hK hP hT cl_6 (k := 6) (by decide) wd_270 rfl dX6_close_73 h (fun b18 h => ?_)
      obtain ⟨hs, h⟩ := chk_some h
      obtain ⟨r19, hc, h⟩ := bS h
      refine r_V0 C hK hX hb hP hS hl.1 (kX3_giveFocus (hs) hc) hs cl_3 wd_433 mo_X3_giveFocus wd_434 wd_435 ⟨Nat.le_of_ble_eq_true rfl, Nat.le_of_ble_eq_true rfl⟩ ⟨Nat.le_of_ble_eq_true rfl, Nat.le_of_ble_eq_true rfl⟩ rfl (rest := []) rfl (Nat.le_of_ble_eq_true rfl) dX6_close_76 (fun H locs hP hS => ?_)
      exact J79 (r19) _ _ _ hP hS (lv_sub hl [1, 2] rfl) h
theorem dX6_trap_0 : decode cX6_trap 0 = .ok (.aload_n 0, 1) := by decide +kernel
theorem dX6_trap_1 : decode cX6_trap 1 = .ok (.getfield 10, 3) := by decide +kernel
theorem dX6_trap_4 : decode cX6_trap 4 = .ok (.getfield 27, 3) := by decide +kernel
theorem dX6_trap_7 : decode cX6_trap 7 = .ok (.invokevirtual 237, 3) := by decide +kernel
theorem dX6_trap_10 : decode cX6_trap 10 = .ok (.ireturn, 1) := by decide +kernel
abbrev rmX6_trap : Room := { frames := 5, cells := 0, slots := 0, locals := 128 }
noncomputable def fX6_trap (n : Nat) (Sh : Sp) (M : Mm) (a0 : Nat) : Option Int32 :=
  tF M a0 0 fun b1 =>
  gF Sh M b1 3 0 fun b2 =>
  chk (Sh b2 = some (.inl 4)) <|
  (fX4_topDialog n Sh M b2).bind fun r3 =>
  some r3
set_option maxRecDepth 100000 in
set_option maxHeartbeats 4000000 in
theorem kX6_trap {l : Launch} {G : Gt} {n : Nat} {Sh : Sp} {M : Mm} {a0 : Nat} (hT : Sh a0 = some (.inl 6)) {r : Int32} (h : fX6_trap n Sh M a0 = some r) : Ct l yX6_trap cX6_trap 1 (some .int) rmX6_trap G Sh M [.ref a0] (some (.int r)) M := by
  refine Ct.of (by decide) (Nat.le_of_ble_eq_true rfl) ?_
  intro p e s m args below meth c ls C hK hX hP hS hb hlk hr hl
  replace hl : lv_has ls 1 [(0, .ref a0)] := hl
  unfold fX6_trap at h
  refine lv_aload_n C.1 C.2.1 dX6_trap_0 rfl (lv_at hl 0 rfl) ?_
  refine r_tF C hK hP hT cl_6 (k := 0) (by decide) wd_264 rfl dX6_trap_1 h (fun b1 h => ?_)
  refine r_gFN C hK hP cl_3 (k := 0) (by decide) (hX.nw wd_209) rfl dX6_trap_4 h (fun b2 h => ?_)
  obtain ⟨hs, h⟩ := chk_some h
  obtain ⟨r3, hc, h⟩ := bS h
  refine r_V1 C hK hX hb hP hS hl.1 (kX4_topDialog (hs) hc) hs cl_4 wd_574 mo_X4_topDialog wd_339 wd_340 ⟨Nat.le_of_ble_eq_true rfl, Nat.le_of_ble_eq_true rfl⟩ ⟨Nat.le_of_ble_eq_true rfl, Nat.le_of_ble_eq_true rfl⟩ rfl (rest := []) rfl (Nat.le_of_ble_eq_true rfl) dX6_trap_7 (fun H locs hP hS => ?_)
  have e := Option.some.inj h
  exact q_i C hlk hP hS hr (by rw [← e]) rfl dX6_trap_10
theorem dX6_region_0 : decode cX6_region 0 = .ok (.aload_n 0, 1) := by decide +kernel
theorem dX6_region_1 : decode cX6_region 1 = .ok (.iload_n 1, 1) := by decide +kernel
theorem dX6_region_2 : decode cX6_region 2 = .ok (.invokevirtual 62, 3) := by decide +kernel
theorem dX6_region_5 : decode cX6_region 5 = .ok (.aload_n 0, 1) := by decide +kernel
theorem dX6_region_6 : decode cX6_region 6 = .ok (.getfield 10, 3) := by decide +kernel
theorem dX6_region_9 : decode cX6_region 9 = .ok (.getfield 27, 3) := by decide +kernel
theorem dX6_region_12 : decode cX6_region 12 = .ok (.iload_n 1, 1) := by decide +kernel
theorem dX6_region_13 : decode cX6_region 13 = .ok (.invokevirtual 240, 3) := by decide +kernel
theorem dX6_region_16 : decode cX6_region 16 = .ok (.ireturn, 1) := by decide +kernel
abbrev rmX6_region : Room := { frames := 7, cells := 1, slots := 6, locals := 121 }
noncomputable def fX6_region (n : Nat) (Sh : Sp) (M : Mm) (a0 : Nat) (a1 : Int32) : Option (String ⊕ Int32) :=
  xb (fX6_requireNode n Sh M a0 a1) (fun E => some (Sum.inl E)) <|
  tF M a0 0 fun b3 =>
  gF Sh M b3 3 0 fun b4 =>
  chk (Sh b4 = some (.inl 4)) <|
  (fX4_regionOf n Sh M b4 a1).bind fun r5 =>
  some (Sum.inr r5)
set_option maxRecDepth 100000 in
set_option maxHeartbeats 4000000 in
theorem kX6_region {l : Launch} {G : Gt} {n : Nat} {Sh : Sp} {M : Mm} {a0 : Nat} {a1 : Int32} (hT : Sh a0 = some (.inl 6)) (hfl : l.stackTraces = false) {r : (String ⊕ Int32)} (h : fX6_region n Sh M a0 a1 = some r) : CtX l yX6_region cX6_region 2 (some .int) rmX6_region G Sh M [.ref a0, .int a1] (rsI r) M := by
  refine CtX.of (by decide) (Nat.le_of_ble_eq_true rfl) ?_
  intro p e s m args below meth c ls C hK hX hP hS hb hlk hr hno hl
  replace hl : lv_has ls 2 [(0, .ref a0), (1, .int a1)] := hl
  unfold fX6_region at h
  refine lv_aload_n C.1 C.2.1 dX6_region_0 rfl (lv_at hl 0 rfl) ?_
  refine lv_iload_n C.1 C.2.1 dX6_region_1 rfl (lv_at hl 1 rfl) ?_
  obtain ⟨z2, hc, hE, h⟩ := xb_some h
  refine r_VX0 C hno hlk hK hX hb hP hS hl.1 (kX6_requireNode hT hfl hc) hT cl_6 wd_671 mo_X6_requireNode wd_673 wd_12 ⟨Nat.le_of_ble_eq_true rfl, Nat.le_of_ble_eq_true rfl⟩ ⟨Nat.le_of_ble_eq_true rfl, Nat.le_of_ble_eq_true rfl⟩ rfl (rest := []) rfl (Nat.le_of_ble_eq_true rfl) dX6_region_2 (k1 := 1) (k2 := 6) ⟨Nat.le_of_ble_eq_true rfl, Nat.le_of_ble_eq_true rfl⟩ ⟨Nat.le_of_ble_eq_true rfl, Nat.le_of_ble_eq_true rfl⟩ (fun E q => by have e := Option.some.inj (hE E q); rw [← e]; exact ⟨rfl, rfl⟩) (fun H locs hz hP hS => ?_)
  replace h := h hz
  refine lv_aload_n C.1 C.2.1 dX6_region_5 rfl (lv_at hl 0 rfl) ?_
  refine r_tF C hK hP hT cl_6 (k := 0) (by decide) wd_264 rfl dX6_region_6 h (fun b3 h => ?_)
  refine r_gFN C hK hP cl_3 (k := 0) (by decide) (hX.nw wd_209) rfl dX6_region_9 h (fun b4 h => ?_)
  refine lv_iload_n C.1 C.2.1 dX6_region_12 rfl (lv_at hl 1 rfl) ?_
  obtain ⟨hs, h⟩ := chk_some h
  obtain ⟨r5, hc, h⟩ := bS h
  refine r_V1 C hK hX hb hP hS hl.1 (kX4_regionOf (hs) hc) hs cl_4 wd_1015 mo_X4_regionOf wd_876 wd_877 ⟨Nat.le_of_ble_eq_true rfl, Nat.le_of_ble_eq_true rfl⟩ ⟨Nat.le_of_ble_eq_true rfl, Nat.le_of_ble_eq_true rfl⟩ rfl (rest := []) rfl (Nat.le_of_ble_eq_true rfl) dX6_region_13 (fun H locs hP hS => ?_)
  have e := Option.some.inj h
  exact x_ir C hlk hP hS hr e dX6_region_16
theorem dX6_pending_0 : decode cX6_pending 0 = .ok (.aload_n 0, 1) := by decide +kernel
theorem dX6_pending_1 : decode cX6_pending 1 = .ok (.getfield 10, 3) := by decide +kernel
theorem dX6_pending_4 : decode cX6_pending 4 = .ok (.getfield 243, 3) := by decide +kernel
theorem dX6_pending_7 : decode cX6_pending 7 = .ok (.getfield 247, 3) := by decide +kernel
theorem dX6_pending_10 : decode cX6_pending 10 = .ok (.ireturn, 1) := by decide +kernel
abbrev rmX6_pending : Room := { frames := 1, cells := 0, slots := 0, locals := 40 }
noncomputable def fX6_pending (n : Nat) (Sh : Sp) (M : Mm) (a0 : Nat) : Option Int32 :=
  tF M a0 0 fun b1 =>
  gF Sh M b1 3 1 fun b2 =>
  gI Sh M b2 1 0 fun x3 =>
  some x3
set_option maxRecDepth 100000 in
set_option maxHeartbeats 4000000 in
theorem kX6_pending {l : Launch} {G : Gt} {n : Nat} {Sh : Sp} {M : Mm} {a0 : Nat} (hT : Sh a0 = some (.inl 6)) {r : Int32} (h : fX6_pending n Sh M a0 = some r) : Ct l yX6_pending cX6_pending 1 (some .int) rmX6_pending G Sh M [.ref a0] (some (.int r)) M := by
  refine Ct.of (by decide) (Nat.le_of_ble_eq_true rfl) ?_
  intro p e s m args below meth c ls C hK hX hP hS hb hlk hr hl
  replace hl : lv_has ls 1 [(0, .ref a0)] := hl
  unfold fX6_pending at h
  refine lv_aload_n C.1 C.2.1 dX6_pending_0 rfl (lv_at hl 0 rfl) ?_
  refine r_tF C hK hP hT cl_6 (k := 0) (by decide) wd_264 rfl dX6_pending_1 h (fun b1 h => ?_)
  refine r_gFN C hK hP cl_3 (k := 1) (by decide) (hX.nw wd_212) rfl dX6_pending_4 h (fun b2 h => ?_)
  refine r_gIN C hK hP cl_1 (k := 0) (by decide) (hX.nw wd_190) rfl dX6_pending_7 h (fun x3 h => ?_)
  have e := Option.some.inj h
  exact q_i C hlk hP hS hr (by rw [← e]) rfl dX6_pending_10
theorem dX6_announcement_0 : decode cX6_announcement 0 = .ok (.iload_n 2, 1) := by decide +kernel
theorem dX6_announcement_1 : decode cX6_announcement 1 = .ok (.iconst 4, 1) := by decide +kernel
theorem dX6_announcement_2 : decode cX6_announcement 2 = .ok (.invokestatic 128, 3) := by decide +kernel
theorem dX6_announcement_5 : decode cX6_announcement 5 = .ok (.aload_n 0, 1) := by decide +kernel
theorem dX6_announcement_6 : decode cX6_announcement 6 = .ok (.getfield 10, 3) := by decide +kernel
theorem dX6_announcement_9 : decode cX6_announcement 9 = .ok (.getfield 243, 3) := by decide +kernel
theorem dX6_announcement_12 : decode cX6_announcement 12 = .ok (.iload_n 1, 1) := by decide +kernel
theorem dX6_announcement_13 : decode cX6_announcement 13 = .ok (.iload_n 2, 1) := by decide +kernel
theorem dX6_announcement_14 : decode cX6_announcement 14 = .ok (.invokevirtual 252, 3) := by decide +kernel
theorem dX6_announcement_17 : decode cX6_announcement 17 = .ok (.ireturn, 1) := by decide +kernel
abbrev rmX6_announcement : Room := { frames := 7, cells := 1, slots := 6, locals := 121 }
noncomputable def fX6_announcement (n : Nat) (Sh : Sp) (M : Mm) (a0 : Nat) (a1 : Int32) (a2 : Int32) : Option (String ⊕ Int32) :=
  xb (fX6_requireKind n Sh M a2 4) (fun E => some (Sum.inl E)) <|
  tF M a0 0 fun b3 =>
  gF Sh M b3 3 1 fun b4 =>
  chk (Sh b4 = some (.inl 1)) <|
  (fX1_about n Sh M b4 a1 a2).bind fun r5 =>
  some (Sum.inr r5)
set_option maxRecDepth 100000 in
set_option maxHeartbeats 4000000 in
theorem kX6_announcement {l : Launch} {G : Gt} {n : Nat} {Sh : Sp} {M : Mm} {a0 : Nat} {a1 : Int32} {a2 : Int32} (hT : Sh a0 = some (.inl 6)) (hfl : l.stackTraces = false) {r : (String ⊕ Int32)} (h : fX6_announcement n Sh M a0 a1 a2 = some r) : CtX l yX6_announcement cX6_announcement 3 (some .int) rmX6_announcement G Sh M [.ref a0, .int a1, .int a2] (rsI r) M := by
  refine CtX.of (by decide) (Nat.le_of_ble_eq_true rfl) ?_
  intro p e s m args below meth c ls C hK hX hP hS hb hlk hr hno hl
  replace hl : lv_has ls 3 [(0, .ref a0), (1, .int a1), (2, .int a2)] := hl
  unfold fX6_announcement at h
  refine lv_iload_n C.1 C.2.1 dX6_announcement_0 rfl (lv_at hl 2 rfl) ?_
  refine lv_iconst (v := 4) C.1 C.2.1 dX6_announcement_1 (by decide) ?_
  obtain ⟨z2, hc, hE, h⟩ := xb_some h
  refine r_SX0 C hno hlk hK hX hb hP hS hl.1 (kX6_requireKind hfl hc) wd_839 mo_X6_requireKind wd_840 ⟨Nat.le_of_ble_eq_true rfl, Nat.le_of_ble_eq_true rfl⟩ ⟨Nat.le_of_ble_eq_true rfl, Nat.le_of_ble_eq_true rfl⟩ rfl (rest := []) rfl (Nat.le_of_ble_eq_true rfl) dX6_announcement_2 (k1 := 1) (k2 := 6) ⟨Nat.le_of_ble_eq_true rfl, Nat.le_of_ble_eq_true rfl⟩ ⟨Nat.le_of_ble_eq_true rfl, Nat.le_of_ble_eq_true rfl⟩ (fun E q => by have e := Option.some.inj (hE E q); rw [← e]; exact ⟨rfl, rfl⟩) (fun H locs hz hP hS => ?_)
  replace h := h hz
  refine lv_aload_n C.1 C.2.1 dX6_announcement_5 rfl (lv_at hl 0 rfl) ?_
  refine r_tF C hK hP hT cl_6 (k := 0) (by decide) wd_264 rfl dX6_announcement_6 h (fun b3 h => ?_)
  refine r_gFN C hK hP cl_3 (k := 1) (by decide) (hX.nw wd_212) rfl dX6_announcement_9 h (fun b4 h => ?_)
  refine lv_iload_n C.1 C.2.1 dX6_announcement_12 rfl (lv_at hl 1 rfl) ?_
  refine lv_iload_n C.1 C.2.1 dX6_announcement_13 rfl (lv_at hl 2 rfl) ?_
  obtain ⟨hs, h⟩ := chk_some h
  obtain ⟨r5, hc, h⟩ := bS h
  refine r_V1 C hK hX hb hP hS hl.1 (kX1_about (hs) hc) hs cl_1 wd_649 mo_X1_about wd_650 wd_651 ⟨Nat.le_of_ble_eq_true rfl, Nat.le_of_ble_eq_true rfl⟩ ⟨Nat.le_of_ble_eq_true rfl, Nat.le_of_ble_eq_true rfl⟩ rfl (rest := []) rfl (Nat.le_of_ble_eq_true rfl) dX6_announcement_14 (fun H locs hP hS => ?_)
  have e := Option.some.inj h
  exact x_ir C hlk hP hS hr e dX6_announcement_17
theorem dX6_announced_0 : decode cX6_announced 0 = .ok (.aload_n 0, 1) := by decide +kernel
theorem dX6_announced_1 : decode cX6_announced 1 = .ok (.getfield 10, 3) := by decide +kernel
theorem dX6_announced_4 : decode cX6_announced 4 = .ok (.getfield 243, 3) := by decide +kernel
theorem dX6_announced_7 : decode cX6_announced 7 = .ok (.iload_n 1, 1) := by decide +kernel
theorem dX6_announced_8 : decode cX6_announced 8 = .ok (.iload_n 2, 1) := by decide +kernel
theorem dX6_announced_9 : decode cX6_announced 9 = .ok (.invokevirtual 253, 3) := by decide +kernel
theorem dX6_announced_12 : decode cX6_announced 12 = .ok (.ireturn, 1) := by decide +kernel
abbrev rmX6_announced : Room := { frames := 3, cells := 0, slots := 0, locals := 83 }
noncomputable def fX6_announced (n : Nat) (Sh : Sp) (M : Mm) (a0 : Nat) (a1 : Int32) (a2 : Int32) : Option Int32 :=
  tF M a0 0 fun b1 =>
  gF Sh M b1 3 1 fun b2 =>
  chk (Sh b2 = some (.inl 1)) <|
  (fX1_signAt n Sh M b2 a1 a2).bind fun r3 =>
  some r3
set_option maxRecDepth 100000 in
set_option maxHeartbeats 4000000 in
theorem kX6_announced {l : Launch} {G : Gt} {n : Nat} {Sh : Sp} {M : Mm} {a0 : Nat} {a1 : Int32} {a2 : Int32} (hT : Sh a0 = some (.inl 6)) {r : Int32} (h : fX6_announced n Sh M a0 a1 a2 = some r) : Ct l yX6_announced cX6_announced 3 (some .int) rmX6_announced G Sh M [.ref a0, .int a1, .int a2] (some (.int r)) M := by
  refine Ct.of (by decide) (Nat.le_of_ble_eq_true rfl) ?_
  intro p e s m args below meth c ls C hK hX hP hS hb hlk hr hl
  replace hl : lv_has ls 3 [(0, .ref a0), (1, .int a1), (2, .int a2)] := hl
  unfold fX6_announced at h
  refine lv_aload_n C.1 C.2.1 dX6_announced_0 rfl (lv_at hl 0 rfl) ?_
  refine r_tF C hK hP hT cl_6 (k := 0) (by decide) wd_264 rfl dX6_announced_1 h (fun b1 h => ?_)
  refine r_gFN C hK hP cl_3 (k := 1) (by decide) (hX.nw wd_212) rfl dX6_announced_4 h (fun b2 h => ?_)
  refine lv_iload_n C.1 C.2.1 dX6_announced_7 rfl (lv_at hl 1 rfl) ?_
  refine lv_iload_n C.1 C.2.1 dX6_announced_8 rfl (lv_at hl 2 rfl) ?_
  obtain ⟨hs, h⟩ := chk_some h
  obtain ⟨r3, hc, h⟩ := bS h
  refine r_V1 C hK hX hb hP hS hl.1 (kX1_signAt (hs) hc) hs cl_1 wd_583 mo_X1_signAt wd_584 wd_585 ⟨Nat.le_of_ble_eq_true rfl, Nat.le_of_ble_eq_true rfl⟩ ⟨Nat.le_of_ble_eq_true rfl, Nat.le_of_ble_eq_true rfl⟩ rfl (rest := []) rfl (Nat.le_of_ble_eq_true rfl) dX6_announced_9 (fun H locs hP hS => ?_)
  have e := Option.some.inj h
  exact q_i C hlk hP hS hr (by rw [← e]) rfl dX6_announced_12
theorem dX6_speak_0 : decode cX6_speak 0 = .ok (.aload_n 0, 1) := by decide +kernel
theorem dX6_speak_1 : decode cX6_speak 1 = .ok (.invokevirtual 92, 3) := by decide +kernel
theorem dX6_speak_4 : decode cX6_speak 4 = .ok (.aload_n 0, 1) := by decide +kernel
theorem dX6_speak_5 : decode cX6_speak 5 = .ok (.getfield 10, 3) := by decide +kernel
theorem dX6_speak_8 : decode cX6_speak 8 = .ok (.getfield 243, 3) := by decide +kernel
theorem dX6_speak_11 : decode cX6_speak 11 = .ok (.aload_n 0, 1) := by decide +kernel
theorem dX6_speak_12 : decode cX6_speak 12 = .ok (.getfield 10, 3) := by decide +kernel
theorem dX6_speak_15 : decode cX6_speak 15 = .ok (.getfield 256, 3) := by decide +kernel
theorem dX6_speak_18 : decode cX6_speak 18 = .ok (.invokevirtual 259, 3) := by decide +kernel
theorem dX6_speak_21 : decode cX6_speak 21 = .ok (.ifCond .eq 16, 3) := by decide +kernel
theorem dX6_speak_24 : decode cX6_speak 24 = .ok (.aload_n 0, 1) := by decide +kernel
theorem dX6_speak_25 : decode cX6_speak 25 = .ok (.getfield 10, 3) := by decide +kernel
theorem dX6_speak_28 : decode cX6_speak 28 = .ok (.getfield 256, 3) := by decide +kernel
theorem dX6_speak_31 : decode cX6_speak 31 = .ok (.getfield 171, 3) := by decide +kernel
theorem dX6_speak_34 : decode cX6_speak 34 = .ok (.goto 4, 3) := by decide +kernel
theorem dX6_speak_37 : decode cX6_speak 37 = .ok (.iconst (-1), 1) := by decide +kernel
theorem dX6_speak_38 : decode cX6_speak 38 = .ok (.ireturn, 1) := by decide +kernel
abbrev rmX6_speak : Room := { frames := 5, cells := 0, slots := 0, locals := 126 }
noncomputable def fX6_speak (n : Nat) (Sh : Sp) (M : Mm) (a0 : Nat) : Option (Int32 × Mm) :=
  (fX6_keepRecord n Sh M a0).bind fun r1 =>
  tF r1 a0 0 fun b2 =>
  gF Sh r1 b2 3 1 fun b3 =>
  tF r1 a0 0 fun b4 =>
  gF Sh r1 b4 3 2 fun b5 =>
  chk (Sh b3 = some (.inl 1)) <|
  (fX1_moveFirst n Sh r1 b3 b5).bind fun r6 =>
  if r6.1 = 0 then
    some ((-1), r6.2)
  else
    tF r6.2 a0 0 fun b7 =>
    gF Sh r6.2 b7 3 2 fun b8 =>
    gI Sh r6.2 b8 5 1 fun x9 =>
    some (x9, r6.2)
set_option maxRecDepth 100000 in
set_option maxHeartbeats 4000000 in
theorem kX6_speak {l : Launch} {G : Gt} {n : Nat} {Sh : Sp} {M : Mm} {a0 : Nat} (hT : Sh a0 = some (.inl 6)) {r : (Int32 × Mm)} (h : fX6_speak n Sh M a0 = some r) : Ct l yX6_speak cX6_speak 1 (some .int) rmX6_speak G Sh M [.ref a0] (some (.int r.1)) r.2 := by
  refine Ct.of (by decide) (Nat.le_of_ble_eq_true rfl) ?_
  intro p e s m args below meth c ls C hK hX hP hS hb hlk hr hl
  replace hl : lv_has ls 1 [(0, .ref a0)] := hl
  unfold fX6_speak at h
  refine lv_aload_n C.1 C.2.1 dX6_speak_0 rfl (lv_at hl 0 rfl) ?_
  obtain ⟨r1, hc, h⟩ := bS h
  refine r_V0 C hK hX hb hP hS hl.1 (kX6_keepRecord (hT) hc) hT cl_6 wd_394 mo_X6_keepRecord wd_396 wd_3 ⟨Nat.le_of_ble_eq_true rfl, Nat.le_of_ble_eq_true rfl⟩ ⟨Nat.le_of_ble_eq_true rfl, Nat.le_of_ble_eq_true rfl⟩ rfl (rest := []) rfl (Nat.le_of_ble_eq_true rfl) dX6_speak_1 (fun H locs hP hS => ?_)
  refine lv_aload_n C.1 C.2.1 dX6_speak_4 rfl (lv_at hl 0 rfl) ?_
  refine r_tF C hK hP hT cl_6 (k := 0) (by decide) wd_264 rfl dX6_speak_5 h (fun b2 h => ?_)
  refine r_gFN C hK hP cl_3 (k := 1) (by decide) (hX.nw wd_212) rfl dX6_speak_8 h (fun b3 h => ?_)
  refine lv_aload_n C.1 C.2.1 dX6_speak_11 rfl (lv_at hl 0 rfl) ?_
  refine r_tF C hK hP hT cl_6 (k := 0) (by decide) wd_264 rfl dX6_speak_12 h (fun b4 h => ?_)
  refine r_gFN C hK hP cl_3 (k := 2) (by decide) (hX.nw wd_214) rfl dX6_speak_15 h (fun b5 h => ?_)
  obtain ⟨hs, h⟩ := chk_some h
  obtain ⟨r6, hc, h⟩ := bS h
  refine r_V1 C hK hX hb hP hS hl.1 (kX1_moveFirst (hs) hc) hs cl_1 wd_592 mo_X1_moveFirst wd_593 wd_594 ⟨Nat.le_of_ble_eq_true rfl, Nat.le_of_ble_eq_true rfl⟩ ⟨Nat.le_of_ble_eq_true rfl, Nat.le_of_ble_eq_true rfl⟩ rfl (rest := []) rfl (Nat.le_of_ble_eq_true rfl) dX6_speak_18 (fun H locs hP hS => ?_)
  refine b_eq (tgt := 37) C dX6_speak_21 (by decide) h (fun h => ?_) (fun h => ?_)
  · refine lv_iconst (v := (-1)) C.1 C.2.1 dX6_speak_37 (by decide) ?_
    have e := Option.some.inj h
    exact q_i C hlk hP hS hr (by rw [← e]) (by rw [← e]) dX6_speak_38
  · refine lv_aload_n C.1 C.2.1 dX6_speak_24 rfl (lv_at hl 0 rfl) ?_
    refine r_tF C hK hP hT cl_6 (k := 0) (by decide) wd_264 rfl dX6_speak_25 h (fun b7 h => ?_)
    refine r_gFN C hK hP cl_3 (k := 2) (by decide) (hX.nw wd_214) rfl dX6_speak_28 h (fun b8 h => ?_)
    refine r_gIN C hK hP cl_5 (k := 1) (by decide) (hX.nw wd_127) rfl dX6_speak_31 h (fun x9 h => ?_)
    refine lv_goto (tgt := 38) C.1 C.2.1 dX6_speak_34 (by decide) ?_
    have e := Option.some.inj h
    exact q_i C hlk hP hS hr (by rw [← e]) (by rw [← e]) dX6_speak_38
theorem dX6_spoken_0 : decode cX6_spoken 0 = .ok (.aload_n 0, 1) := by decide +kernel
theorem dX6_spoken_1 : decode cX6_spoken 1 = .ok (.getfield 10, 3) := by decide +kernel
theorem dX6_spoken_4 : decode cX6_spoken 4 = .ok (.getfield 256, 3) := by decide +kernel
theorem dX6_spoken_7 : decode cX6_spoken 7 = .ok (.iload_n 1, 1) := by decide +kernel
theorem dX6_spoken_8 : decode cX6_spoken 8 = .ok (.invokevirtual 188, 3) := by decide +kernel
theorem dX6_spoken_11 : decode cX6_spoken 11 = .ok (.ireturn, 1) := by decide +kernel
abbrev rmX6_spoken : Room := { frames := 2, cells := 0, slots := 0, locals := 61 }
noncomputable def fX6_spoken (n : Nat) (Sh : Sp) (M : Mm) (a0 : Nat) (a1 : Int32) : Option Int32 :=
  tF M a0 0 fun b1 =>
  gF Sh M b1 3 2 fun b2 =>
  chk (Sh b2 = some (.inl 5)) <|
  (fX5_at n Sh M b2 a1).bind fun r3 =>
  some r3
set_option maxRecDepth 100000 in
set_option maxHeartbeats 4000000 in
theorem kX6_spoken {l : Launch} {G : Gt} {n : Nat} {Sh : Sp} {M : Mm} {a0 : Nat} {a1 : Int32} (hT : Sh a0 = some (.inl 6)) {r : Int32} (h : fX6_spoken n Sh M a0 a1 = some r) : Ct l yX6_spoken cX6_spoken 2 (some .int) rmX6_spoken G Sh M [.ref a0, .int a1] (some (.int r)) M := by
  refine Ct.of (by decide) (Nat.le_of_ble_eq_true rfl) ?_
  intro p e s m args below meth c ls C hK hX hP hS hb hlk hr hl
  replace hl : lv_has ls 2 [(0, .ref a0), (1, .int a1)] := hl
  unfold fX6_spoken at h
  refine lv_aload_n C.1 C.2.1 dX6_spoken_0 rfl (lv_at hl 0 rfl) ?_
  refine r_tF C hK hP hT cl_6 (k := 0) (by decide) wd_264 rfl dX6_spoken_1 h (fun b1 h => ?_)
  refine r_gFN C hK hP cl_3 (k := 2) (by decide) (hX.nw wd_214) rfl dX6_spoken_4 h (fun b2 h => ?_)
  refine lv_iload_n C.1 C.2.1 dX6_spoken_7 rfl (lv_at hl 1 rfl) ?_
  obtain ⟨hs, h⟩ := chk_some h
  obtain ⟨r3, hc, h⟩ := bS h
  refine r_V1 C hK hX hb hP hS hl.1 (kX5_at (hs) hc) hs cl_5 wd_604 mo_X5_at wd_483 wd_484 ⟨Nat.le_of_ble_eq_true rfl, Nat.le_of_ble_eq_true rfl⟩ ⟨Nat.le_of_ble_eq_true rfl, Nat.le_of_ble_eq_true rfl⟩ rfl (rest := []) rfl (Nat.le_of_ble_eq_true rfl) dX6_spoken_8 (fun H locs hP hS => ?_)
  have e := Option.some.inj h
  exact q_i C hlk hP hS hr (by rw [← e]) rfl dX6_spoken_11
theorem dX6_silence_0 : decode cX6_silence 0 = .ok (.aload_n 0, 1) := by decide +kernel
theorem dX6_silence_1 : decode cX6_silence 1 = .ok (.invokevirtual 92, 3) := by decide +kernel
theorem dX6_silence_4 : decode cX6_silence 4 = .ok (.aload_n 0, 1) := by decide +kernel
theorem dX6_silence_5 : decode cX6_silence 5 = .ok (.getfield 10, 3) := by decide +kernel
theorem dX6_silence_8 : decode cX6_silence 8 = .ok (.getfield 243, 3) := by decide +kernel
theorem dX6_silence_11 : decode cX6_silence 11 = .ok (.invokevirtual 263, 3) := by decide +kernel
theorem dX6_silence_14 : decode cX6_silence 14 = .ok (.ireturn, 1) := by decide +kernel
abbrev rmX6_silence : Room := { frames := 5, cells := 0, slots := 0, locals := 126 }
noncomputable def fX6_silence (n : Nat) (Sh : Sp) (M : Mm) (a0 : Nat) : Option (Int32 × Mm) :=
  (fX6_keepRecord n Sh M a0).bind fun r1 =>
  tF r1 a0 0 fun b2 =>
  gF Sh r1 b2 3 1 fun b3 =>
  chk (Sh b3 = some (.inl 1)) <|
  (fX1_dropAll n Sh r1 b3).bind fun r4 =>
  some (r4.1, r4.2)
set_option maxRecDepth 100000 in
set_option maxHeartbeats 4000000 in
theorem kX6_silence {l : Launch} {G : Gt} {n : Nat} {Sh : Sp} {M : Mm} {a0 : Nat} (hT : Sh a0 = some (.inl 6)) {r : (Int32 × Mm)} (h : fX6_silence n Sh M a0 = some r) : Ct l yX6_silence cX6_silence 1 (some .int) rmX6_silence G Sh M [.ref a0] (some (.int r.1)) r.2 := by
  refine Ct.of (by decide) (Nat.le_of_ble_eq_true rfl) ?_
  intro p e s m args below meth c ls C hK hX hP hS hb hlk hr hl
  replace hl : lv_has ls 1 [(0, .ref a0)] := hl
  unfold fX6_silence at h
  refine lv_aload_n C.1 C.2.1 dX6_silence_0 rfl (lv_at hl 0 rfl) ?_
  obtain ⟨r1, hc, h⟩ := bS h
  refine r_V0 C hK hX hb hP hS hl.1 (kX6_keepRecord (hT) hc) hT cl_6 wd_394 mo_X6_keepRecord wd_396 wd_3 ⟨Nat.le_of_ble_eq_true rfl, Nat.le_of_ble_eq_true rfl⟩ ⟨Nat.le_of_ble_eq_true rfl, Nat.le_of_ble_eq_true rfl⟩ rfl (rest := []) rfl (Nat.le_of_ble_eq_true rfl) dX6_silence_1 (fun H locs hP hS => ?_)
  refine lv_aload_n C.1 C.2.1 dX6_silence_4 rfl (lv_at hl 0 rfl) ?_
  refine r_tF C hK hP hT cl_6 (k := 0) (by decide) wd_264 rfl dX6_silence_5 h (fun b2 h => ?_)
  refine r_gFN C hK hP cl_3 (k := 1) (by decide) (hX.nw wd_212) rfl dX6_silence_8 h (fun b3 h => ?_)
  obtain ⟨hs, h⟩ := chk_some h
  obtain ⟨r4, hc, h⟩ := bS h
  refine r_V1 C hK hX hb hP hS hl.1 (kX1_dropAll (hs) hc) hs cl_1 wd_609 mo_X1_dropAll wd_610 wd_611 ⟨Nat.le_of_ble_eq_true rfl, Nat.le_of_ble_eq_true rfl⟩ ⟨Nat.le_of_ble_eq_true rfl, Nat.le_of_ble_eq_true rfl⟩ rfl (rest := []) rfl (Nat.le_of_ble_eq_true rfl) dX6_silence_11 (fun H locs hP hS => ?_)
  have e := Option.some.inj h
  exact q_i C hlk hP hS hr (by rw [← e]) (by rw [← e]) dX6_silence_14
theorem dX6_cellPlace_0 : decode cX6_cellPlace 0 = .ok (.aload_n 0, 1) := by decide +kernel
theorem dX6_cellPlace_1 : decode cX6_cellPlace 1 = .ok (.iload_n 1, 1) := by decide +kernel
theorem dX6_cellPlace_2 : decode cX6_cellPlace 2 = .ok (.invokevirtual 62, 3) := by decide +kernel
theorem dX6_cellPlace_5 : decode cX6_cellPlace 5 = .ok (.aload_n 0, 1) := by decide +kernel
theorem dX6_cellPlace_6 : decode cX6_cellPlace 6 = .ok (.getfield 34, 3) := by decide +kernel
theorem dX6_cellPlace_9 : decode cX6_cellPlace 9 = .ok (.iload_n 1, 1) := by decide +kernel
theorem dX6_cellPlace_10 : decode cX6_cellPlace 10 = .ok (.invokevirtual 266, 3) := by decide +kernel
theorem dX6_cellPlace_13 : decode cX6_cellPlace 13 = .ok (.ifCond .ne 5, 3) := by decide +kernel
theorem dX6_cellPlace_16 : decode cX6_cellPlace 16 = .ok (.iconst (-1), 1) := by decide +kernel
theorem dX6_cellPlace_17 : decode cX6_cellPlace 17 = .ok (.ireturn, 1) := by decide +kernel
theorem dX6_cellPlace_18 : decode cX6_cellPlace 18 = .ok (.iload_n 2, 1) := by decide +kernel
theorem dX6_cellPlace_19 : decode cX6_cellPlace 19 = .ok (.ifCond .eq 14, 3) := by decide +kernel
theorem dX6_cellPlace_22 : decode cX6_cellPlace 22 = .ok (.aload_n 0, 1) := by decide +kernel
theorem dX6_cellPlace_23 : decode cX6_cellPlace 23 = .ok (.getfield 34, 3) := by decide +kernel
theorem dX6_cellPlace_26 : decode cX6_cellPlace 26 = .ok (.iload_n 1, 1) := by decide +kernel
theorem dX6_cellPlace_27 : decode cX6_cellPlace 27 = .ok (.invokevirtual 269, 3) := by decide +kernel
theorem dX6_cellPlace_30 : decode cX6_cellPlace 30 = .ok (.goto 11, 3) := by decide +kernel
theorem dX6_cellPlace_33 : decode cX6_cellPlace 33 = .ok (.aload_n 0, 1) := by decide +kernel
theorem dX6_cellPlace_34 : decode cX6_cellPlace 34 = .ok (.getfield 34, 3) := by decide +kernel
theorem dX6_cellPlace_37 : decode cX6_cellPlace 37 = .ok (.iload_n 1, 1) := by decide +kernel
theorem dX6_cellPlace_38 : decode cX6_cellPlace 38 = .ok (.invokevirtual 272, 3) := by decide +kernel
theorem dX6_cellPlace_41 : decode cX6_cellPlace 41 = .ok (.ireturn, 1) := by decide +kernel
abbrev rmX6_cellPlace : Room := { frames := 7, cells := 1, slots := 6, locals := 121 }
noncomputable def fX6_cellPlace (n : Nat) (Sh : Sp) (M : Mm) (a0 : Nat) (a1 : Int32) (a2 : Int32) : Option (String ⊕ Int32) :=
  xb (fX6_requireNode n Sh M a0 a1) (fun E => some (Sum.inl E)) <|
  tF M a0 2 fun b3 =>
  chk (Sh b3 = some (.inl 0)) <|
  (fX0_isCell n Sh M b3 a1).bind fun r4 =>
  if r4 = 0 then
    some (Sum.inr (-1))
  else
    if a2 = 0 then
      tF M a0 2 fun b5 =>
      chk (Sh b5 = some (.inl 0)) <|
      (fX0_rowOf n Sh M b5 a1).bind fun r6 =>
      some (Sum.inr r6)
    else
      tF M a0 2 fun b7 =>
      chk (Sh b7 = some (.inl 0)) <|
      (fX0_columnOf n Sh M b7 a1).bind fun r8 =>
      some (Sum.inr r8)
set_option maxRecDepth 100000 in
set_option maxHeartbeats 4000000 in
theorem kX6_cellPlace {l : Launch} {G : Gt} {n : Nat} {Sh : Sp} {M : Mm} {a0 : Nat} {a1 : Int32} {a2 : Int32} (hT : Sh a0 = some (.inl 6)) (hfl : l.stackTraces = false) {r : (String ⊕ Int32)} (h : fX6_cellPlace n Sh M a0 a1 a2 = some r) : CtX l yX6_cellPlace cX6_cellPlace 3 (some .int) rmX6_cellPlace G Sh M [.ref a0, .int a1, .int a2] (rsI r) M := by
  refine CtX.of (by decide) (Nat.le_of_ble_eq_true rfl) ?_
  intro p e s m args below meth c ls C hK hX hP hS hb hlk hr hno hl
  replace hl : lv_has ls 3 [(0, .ref a0), (1, .int a1), (2, .int a2)] := hl
  unfold fX6_cellPlace at h
  refine lv_aload_n C.1 C.2.1 dX6_cellPlace_0 rfl (lv_at hl 0 rfl) ?_
  refine lv_iload_n C.1 C.2.1 dX6_cellPlace_1 rfl (lv_at hl 1 rfl) ?_
  obtain ⟨z2, hc, hE, h⟩ := xb_some h
  refine r_VX0 C hno hlk hK hX hb hP hS hl.1 (kX6_requireNode hT hfl hc) hT cl_6 wd_671 mo_X6_requireNode wd_673 wd_12 ⟨Nat.le_of_ble_eq_true rfl, Nat.le_of_ble_eq_true rfl⟩ ⟨Nat.le_of_ble_eq_true rfl, Nat.le_of_ble_eq_true rfl⟩ rfl (rest := []) rfl (Nat.le_of_ble_eq_true rfl) dX6_cellPlace_2 (k1 := 1) (k2 := 6) ⟨Nat.le_of_ble_eq_true rfl, Nat.le_of_ble_eq_true rfl⟩ ⟨Nat.le_of_ble_eq_true rfl, Nat.le_of_ble_eq_true rfl⟩ (fun E q => by have e := Option.some.inj (hE E q); rw [← e]; exact ⟨rfl, rfl⟩) (fun H locs hz hP hS => ?_)
  replace h := h hz
  refine lv_aload_n C.1 C.2.1 dX6_cellPlace_5 rfl (lv_at hl 0 rfl) ?_
  refine r_tF C hK hP hT cl_6 (k := 2) (by decide) wd_266 rfl dX6_cellPlace_6 h (fun b3 h => ?_)
  refine lv_iload_n C.1 C.2.1 dX6_cellPlace_9 rfl (lv_at hl 1 rfl) ?_
  obtain ⟨hs, h⟩ := chk_some h
  obtain ⟨r4, hc, h⟩ := bS h
  refine r_V1 C hK hX hb hP hS hl.1 (kX0_isCell (hs) hc) hs cl_0 wd_1030 mo_X0_isCell wd_1031 wd_1032 ⟨Nat.le_of_ble_eq_true rfl, Nat.le_of_ble_eq_true rfl⟩ ⟨Nat.le_of_ble_eq_true rfl, Nat.le_of_ble_eq_true rfl⟩ rfl (rest := []) rfl (Nat.le_of_ble_eq_true rfl) dX6_cellPlace_10 (fun H locs hP hS => ?_)
  refine b_ne (tgt := 18) C dX6_cellPlace_13 (by decide) h (fun h => ?_) (fun h => ?_)
  · refine lv_iconst (v := (-1)) C.1 C.2.1 dX6_cellPlace_16 (by decide) ?_
    have e := Option.some.inj h
    exact x_ir C hlk hP hS hr e dX6_cellPlace_17
  · refine lv_iload_n C.1 C.2.1 dX6_cellPlace_18 rfl (lv_at hl 2 rfl) ?_
    refine b_eq (tgt := 33) C dX6_cellPlace_19 (by decide) h (fun h => ?_) (fun h => ?_)
    · refine lv_aload_n C.1 C.2.1 dX6_cellPlace_33 rfl (lv_at hl 0 rfl) ?_
      refine r_tF C hK hP hT cl_6 (k := 2) (by decide) wd_266 rfl dX6_cellPlace_34 h (fun b5 h => ?_)
      refine lv_iload_n C.1 C.2.1 dX6_cellPlace_37 rfl (lv_at hl 1 rfl) ?_
      obtain ⟨hs, h⟩ := chk_some h
      obtain ⟨r6, hc, h⟩ := bS h
      refine r_V1 C hK hX hb hP hS hl.1 (kX0_rowOf (hs) hc) hs cl_0 wd_1049 mo_X0_rowOf wd_1050 wd_1051 ⟨Nat.le_of_ble_eq_true rfl, Nat.le_of_ble_eq_true rfl⟩ ⟨Nat.le_of_ble_eq_true rfl, Nat.le_of_ble_eq_true rfl⟩ rfl (rest := []) rfl (Nat.le_of_ble_eq_true rfl) dX6_cellPlace_38 (fun H locs hP hS => ?_)
      have e := Option.some.inj h
      exact x_ir C hlk hP hS hr e dX6_cellPlace_41
    · refine lv_aload_n C.1 C.2.1 dX6_cellPlace_22 rfl (lv_at hl 0 rfl) ?_
      refine r_tF C hK hP hT cl_6 (k := 2) (by decide) wd_266 rfl dX6_cellPlace_23 h (fun b7 h => ?_)
      refine lv_iload_n C.1 C.2.1 dX6_cellPlace_26 rfl (lv_at hl 1 rfl) ?_
      obtain ⟨hs, h⟩ := chk_some h
      obtain ⟨r8, hc, h⟩ := bS h
      refine r_V1 C hK hX hb hP hS hl.1 (kX0_columnOf (hs) hc) hs cl_0 wd_1039 mo_X0_columnOf wd_1040 wd_1041 ⟨Nat.le_of_ble_eq_true rfl, Nat.le_of_ble_eq_true rfl⟩ ⟨Nat.le_of_ble_eq_true rfl, Nat.le_of_ble_eq_true rfl⟩ rfl (rest := []) rfl (Nat.le_of_ble_eq_true rfl) dX6_cellPlace_27 (fun H locs hP hS => ?_)
      refine lv_goto (tgt := 41) C.1 C.2.1 dX6_cellPlace_30 (by decide) ?_
      have e := Option.some.inj h
      exact x_ir C hlk hP hS hr e dX6_cellPlace_41
theorem dX6_cellAt_0 : decode cX6_cellAt 0 = .ok (.aload_n 0, 1) := by decide +kernel
theorem dX6_cellAt_1 : decode cX6_cellAt 1 = .ok (.iload_n 1, 1) := by decide +kernel
theorem dX6_cellAt_2 : decode cX6_cellAt 2 = .ok (.invokevirtual 62, 3) := by decide +kernel
theorem dX6_cellAt_5 : decode cX6_cellAt 5 = .ok (.aload_n 0, 1) := by decide +kernel
theorem dX6_cellAt_6 : decode cX6_cellAt 6 = .ok (.getfield 10, 3) := by decide +kernel
theorem dX6_cellAt_9 : decode cX6_cellAt 9 = .ok (.getfield 27, 3) := by decide +kernel
theorem dX6_cellAt_12 : decode cX6_cellAt 12 = .ok (.iload_n 1, 1) := by decide +kernel
theorem dX6_cellAt_13 : decode cX6_cellAt 13 = .ok (.invokevirtual 158, 3) := by decide +kernel
theorem dX6_cellAt_16 : decode cX6_cellAt 16 = .ok (.bipush 7, 2) := by decide +kernel
theorem dX6_cellAt_18 : decode cX6_cellAt 18 = .ok (.if_icmp .ne 16, 3) := by decide +kernel
theorem dX6_cellAt_21 : decode cX6_cellAt 21 = .ok (.aload_n 0, 1) := by decide +kernel
theorem dX6_cellAt_22 : decode cX6_cellAt 22 = .ok (.getfield 34, 3) := by decide +kernel
theorem dX6_cellAt_25 : decode cX6_cellAt 25 = .ok (.iload_n 1, 1) := by decide +kernel
theorem dX6_cellAt_26 : decode cX6_cellAt 26 = .ok (.iload_n 2, 1) := by decide +kernel
theorem dX6_cellAt_27 : decode cX6_cellAt 27 = .ok (.iload_n 3, 1) := by decide +kernel
theorem dX6_cellAt_28 : decode cX6_cellAt 28 = .ok (.invokevirtual 275, 3) := by decide +kernel
theorem dX6_cellAt_31 : decode cX6_cellAt 31 = .ok (.goto 4, 3) := by decide +kernel
theorem dX6_cellAt_34 : decode cX6_cellAt 34 = .ok (.iconst (-1), 1) := by decide +kernel
theorem dX6_cellAt_35 : decode cX6_cellAt 35 = .ok (.ireturn, 1) := by decide +kernel
abbrev rmX6_cellAt : Room := { frames := 7, cells := 1, slots := 6, locals := 121 }
noncomputable def fX6_cellAt (n : Nat) (Sh : Sp) (M : Mm) (a0 : Nat) (a1 : Int32) (a2 : Int32) (a3 : Int32) : Option (String ⊕ Int32) :=
  xb (fX6_requireNode n Sh M a0 a1) (fun E => some (Sum.inl E)) <|
  tF M a0 0 fun b3 =>
  gF Sh M b3 3 0 fun b4 =>
  chk (Sh b4 = some (.inl 4)) <|
  (fX4_roleOf n Sh M b4 a1).bind fun r5 =>
  if r5 = 7 then
    tF M a0 2 fun b6 =>
    chk (Sh b6 = some (.inl 0)) <|
    (fX0_cellIn n Sh M b6 a1 a2 a3).bind fun r7 =>
    some (Sum.inr r7)
  else
    some (Sum.inr (-1))
set_option maxRecDepth 100000 in
set_option maxHeartbeats 4000000 in
theorem kX6_cellAt {l : Launch} {G : Gt} {n : Nat} {Sh : Sp} {M : Mm} {a0 : Nat} {a1 : Int32} {a2 : Int32} {a3 : Int32} (hT : Sh a0 = some (.inl 6)) (hfl : l.stackTraces = false) {r : (String ⊕ Int32)} (h : fX6_cellAt n Sh M a0 a1 a2 a3 = some r) : CtX l yX6_cellAt cX6_cellAt 4 (some .int) rmX6_cellAt G Sh M [.ref a0, .int a1, .int a2, .int a3] (rsI r) M := by
  refine CtX.of (by decide) (Nat.le_of_ble_eq_true rfl) ?_
  intro p e s m args below meth c ls C hK hX hP hS hb hlk hr hno hl
  replace hl : lv_has ls 4 [(0, .ref a0), (1, .int a1), (2, .int a2), (3, .int a3)] := hl
  unfold fX6_cellAt at h
  refine lv_aload_n C.1 C.2.1 dX6_cellAt_0 rfl (lv_at hl 0 rfl) ?_
  refine lv_iload_n C.1 C.2.1 dX6_cellAt_1 rfl (lv_at hl 1 rfl) ?_
  obtain ⟨z2, hc, hE, h⟩ := xb_some h
  refine r_VX0 C hno hlk hK hX hb hP hS hl.1 (kX6_requireNode hT hfl hc) hT cl_6 wd_671 mo_X6_requireNode wd_673 wd_12 ⟨Nat.le_of_ble_eq_true rfl, Nat.le_of_ble_eq_true rfl⟩ ⟨Nat.le_of_ble_eq_true rfl, Nat.le_of_ble_eq_true rfl⟩ rfl (rest := []) rfl (Nat.le_of_ble_eq_true rfl) dX6_cellAt_2 (k1 := 1) (k2 := 6) ⟨Nat.le_of_ble_eq_true rfl, Nat.le_of_ble_eq_true rfl⟩ ⟨Nat.le_of_ble_eq_true rfl, Nat.le_of_ble_eq_true rfl⟩ (fun E q => by have e := Option.some.inj (hE E q); rw [← e]; exact ⟨rfl, rfl⟩) (fun H locs hz hP hS => ?_)
  replace h := h hz
  refine lv_aload_n C.1 C.2.1 dX6_cellAt_5 rfl (lv_at hl 0 rfl) ?_
  refine r_tF C hK hP hT cl_6 (k := 0) (by decide) wd_264 rfl dX6_cellAt_6 h (fun b3 h => ?_)
  refine r_gFN C hK hP cl_3 (k := 0) (by decide) (hX.nw wd_209) rfl dX6_cellAt_9 h (fun b4 h => ?_)
  refine lv_iload_n C.1 C.2.1 dX6_cellAt_12 rfl (lv_at hl 1 rfl) ?_
  obtain ⟨hs, h⟩ := chk_some h
  obtain ⟨r5, hc, h⟩ := bS h
  refine r_V1 C hK hX hb hP hS hl.1 (kX4_roleOf (hs) hc) hs cl_4 wd_900 mo_X4_roleOf wd_359 wd_360 ⟨Nat.le_of_ble_eq_true rfl, Nat.le_of_ble_eq_true rfl⟩ ⟨Nat.le_of_ble_eq_true rfl, Nat.le_of_ble_eq_true rfl⟩ rfl (rest := []) rfl (Nat.le_of_ble_eq_true rfl) dX6_cellAt_13 (fun H locs hP hS => ?_)
  refine lv_bipush (v := 7) C.1 C.2.1 dX6_cellAt_16 (by decide) ?_
  refine b_ine (tgt := 34) C dX6_cellAt_18 (by decide) h (fun h => ?_) (fun h => ?_)
  · refine lv_aload_n C.1 C.2.1 dX6_cellAt_21 rfl (lv_at hl 0 rfl) ?_
    refine r_tF C hK hP hT cl_6 (k := 2) (by decide) wd_266 rfl dX6_cellAt_22 h (fun b6 h => ?_)
    refine lv_iload_n C.1 C.2.1 dX6_cellAt_25 rfl (lv_at hl 1 rfl) ?_
    refine lv_iload_n C.1 C.2.1 dX6_cellAt_26 rfl (lv_at hl 2 rfl) ?_
    refine lv_iload_n C.1 C.2.1 dX6_cellAt_27 rfl (lv_at hl 3 rfl) ?_
    obtain ⟨hs, h⟩ := chk_some h
    obtain ⟨r7, hc, h⟩ := bS h
    refine r_V1 C hK hX hb hP hS hl.1 (kX0_cellIn (hs) hc) hs cl_0 wd_1060 mo_X0_cellIn wd_1061 wd_1062 ⟨Nat.le_of_ble_eq_true rfl, Nat.le_of_ble_eq_true rfl⟩ ⟨Nat.le_of_ble_eq_true rfl, Nat.le_of_ble_eq_true rfl⟩ rfl (rest := []) rfl (Nat.le_of_ble_eq_true rfl) dX6_cellAt_28 (fun H locs hP hS => ?_)
    refine lv_goto (tgt := 35) C.1 C.2.1 dX6_cellAt_31 (by decide) ?_
    have e := Option.some.inj h
    exact x_ir C hlk hP hS hr e dX6_cellAt_35
  · refine lv_iconst (v := (-1)) C.1 C.2.1 dX6_cellAt_34 (by decide) ?_
    have e := Option.some.inj h
    exact x_ir C hlk hP hS hr e dX6_cellAt_35
theorem dX6_header_0 : decode cX6_header 0 = .ok (.aload_n 0, 1) := by decide +kernel
theorem dX6_header_1 : decode cX6_header 1 = .ok (.iload_n 1, 1) := by decide +kernel
theorem dX6_header_2 : decode cX6_header 2 = .ok (.invokevirtual 62, 3) := by decide +kernel
theorem dX6_header_5 : decode cX6_header 5 = .ok (.aload_n 0, 1) := by decide +kernel
theorem dX6_header_6 : decode cX6_header 6 = .ok (.getfield 34, 3) := by decide +kernel
theorem dX6_header_9 : decode cX6_header 9 = .ok (.iload_n 1, 1) := by decide +kernel
theorem dX6_header_10 : decode cX6_header 10 = .ok (.iload_n 2, 1) := by decide +kernel
theorem dX6_header_11 : decode cX6_header 11 = .ok (.invokevirtual 279, 3) := by decide +kernel
theorem dX6_header_14 : decode cX6_header 14 = .ok (.ireturn, 1) := by decide +kernel
abbrev rmX6_header : Room := { frames := 7, cells := 1, slots := 6, locals := 158 }
noncomputable def fX6_header (n : Nat) (Sh : Sp) (M : Mm) (a0 : Nat) (a1 : Int32) (a2 : Int32) : Option (String ⊕ Int32) :=
  xb (fX6_requireNode n Sh M a0 a1) (fun E => some (Sum.inl E)) <|
  tF M a0 2 fun b3 =>
  chk (Sh b3 = some (.inl 0)) <|
  (fX0_headerOf n Sh M b3 a1 a2).bind fun r4 =>
  some (Sum.inr r4)
set_option maxRecDepth 100000 in
set_option maxHeartbeats 4000000 in
theorem kX6_header {l : Launch} {G : Gt} {n : Nat} {Sh : Sp} {M : Mm} {a0 : Nat} {a1 : Int32} {a2 : Int32} (hT : Sh a0 = some (.inl 6)) (hfl : l.stackTraces = false) {r : (String ⊕ Int32)} (h : fX6_header n Sh M a0 a1 a2 = some r) : CtX l yX6_header cX6_header 3 (some .int) rmX6_header G Sh M [.ref a0, .int a1, .int a2] (rsI r) M := by
  refine CtX.of (by decide) (Nat.le_of_ble_eq_true rfl) ?_
  intro p e s m args below meth c ls C hK hX hP hS hb hlk hr hno hl
  replace hl : lv_has ls 3 [(0, .ref a0), (1, .int a1), (2, .int a2)] := hl
  unfold fX6_header at h
  refine lv_aload_n C.1 C.2.1 dX6_header_0 rfl (lv_at hl 0 rfl) ?_
  refine lv_iload_n C.1 C.2.1 dX6_header_1 rfl (lv_at hl 1 rfl) ?_
  obtain ⟨z2, hc, hE, h⟩ := xb_some h
  refine r_VX0 C hno hlk hK hX hb hP hS hl.1 (kX6_requireNode hT hfl hc) hT cl_6 wd_671 mo_X6_requireNode wd_673 wd_12 ⟨Nat.le_of_ble_eq_true rfl, Nat.le_of_ble_eq_true rfl⟩ ⟨Nat.le_of_ble_eq_true rfl, Nat.le_of_ble_eq_true rfl⟩ rfl (rest := []) rfl (Nat.le_of_ble_eq_true rfl) dX6_header_2 (k1 := 1) (k2 := 6) ⟨Nat.le_of_ble_eq_true rfl, Nat.le_of_ble_eq_true rfl⟩ ⟨Nat.le_of_ble_eq_true rfl, Nat.le_of_ble_eq_true rfl⟩ (fun E q => by have e := Option.some.inj (hE E q); rw [← e]; exact ⟨rfl, rfl⟩) (fun H locs hz hP hS => ?_)
  replace h := h hz
  refine lv_aload_n C.1 C.2.1 dX6_header_5 rfl (lv_at hl 0 rfl) ?_
  refine r_tF C hK hP hT cl_6 (k := 2) (by decide) wd_266 rfl dX6_header_6 h (fun b3 h => ?_)
  refine lv_iload_n C.1 C.2.1 dX6_header_9 rfl (lv_at hl 1 rfl) ?_
  refine lv_iload_n C.1 C.2.1 dX6_header_10 rfl (lv_at hl 2 rfl) ?_
  obtain ⟨hs, h⟩ := chk_some h
  obtain ⟨r4, hc, h⟩ := bS h
  refine r_V1 C hK hX hb hP hS hl.1 (kX0_headerOf (hs) hc) hs cl_0 wd_1075 mo_X0_headerOf wd_1076 wd_1077 ⟨Nat.le_of_ble_eq_true rfl, Nat.le_of_ble_eq_true rfl⟩ ⟨Nat.le_of_ble_eq_true rfl, Nat.le_of_ble_eq_true rfl⟩ rfl (rest := []) rfl (Nat.le_of_ble_eq_true rfl) dX6_header_11 (fun H locs hP hS => ?_)
  have e := Option.some.inj h
  exact x_ir C hlk hP hS hr e dX6_header_14
theorem dX6_joinHeader_0 : decode cX6_joinHeader 0 = .ok (.aload_n 0, 1) := by decide +kernel
theorem dX6_joinHeader_1 : decode cX6_joinHeader 1 = .ok (.getfield 34, 3) := by decide +kernel
theorem dX6_joinHeader_4 : decode cX6_joinHeader 4 = .ok (.iload_n 1, 1) := by decide +kernel
theorem dX6_joinHeader_5 : decode cX6_joinHeader 5 = .ok (.iload_n 2, 1) := by decide +kernel
theorem dX6_joinHeader_6 : decode cX6_joinHeader 6 = .ok (.invokevirtual 279, 3) := by decide +kernel
theorem dX6_joinHeader_9 : decode cX6_joinHeader 9 = .ok (.istore_n 3, 1) := by decide +kernel
theorem dX6_joinHeader_10 : decode cX6_joinHeader 10 = .ok (.iload_n 3, 1) := by decide +kernel
theorem dX6_joinHeader_11 : decode cX6_joinHeader 11 = .ok (.iconst (-1), 1) := by decide +kernel
theorem dX6_joinHeader_12 : decode cX6_joinHeader 12 = .ok (.if_icmp .eq 40, 3) := by decide +kernel
theorem dX6_joinHeader_15 : decode cX6_joinHeader 15 = .ok (.iload_n 3, 1) := by decide +kernel
theorem dX6_joinHeader_16 : decode cX6_joinHeader 16 = .ok (.aload_n 0, 1) := by decide +kernel
theorem dX6_joinHeader_17 : decode cX6_joinHeader 17 = .ok (.getfield 34, 3) := by decide +kernel
theorem dX6_joinHeader_20 : decode cX6_joinHeader 20 = .ok (.aload_n 0, 1) := by decide +kernel
theorem dX6_joinHeader_21 : decode cX6_joinHeader 21 = .ok (.getfield 10, 3) := by decide +kernel
theorem dX6_joinHeader_24 : decode cX6_joinHeader 24 = .ok (.getfield 287, 3) := by decide +kernel
theorem dX6_joinHeader_27 : decode cX6_joinHeader 27 = .ok (.iload_n 2, 1) := by decide +kernel
theorem dX6_joinHeader_28 : decode cX6_joinHeader 28 = .ok (.invokevirtual 279, 3) := by decide +kernel
theorem dX6_joinHeader_31 : decode cX6_joinHeader 31 = .ok (.if_icmp .eq 21, 3) := by decide +kernel
theorem dX6_joinHeader_34 : decode cX6_joinHeader 34 = .ok (.aload_n 0, 1) := by decide +kernel
theorem dX6_joinHeader_35 : decode cX6_joinHeader 35 = .ok (.getfield 10, 3) := by decide +kernel
theorem dX6_joinHeader_38 : decode cX6_joinHeader 38 = .ok (.getfield 27, 3) := by decide +kernel
theorem dX6_joinHeader_41 : decode cX6_joinHeader 41 = .ok (.iload_n 3, 1) := by decide +kernel
theorem dX6_joinHeader_42 : decode cX6_joinHeader 42 = .ok (.aload_n 0, 1) := by decide +kernel
theorem dX6_joinHeader_43 : decode cX6_joinHeader 43 = .ok (.getfield 10, 3) := by decide +kernel
theorem dX6_joinHeader_46 : decode cX6_joinHeader 46 = .ok (.getfield 256, 3) := by decide +kernel
theorem dX6_joinHeader_49 : decode cX6_joinHeader 49 = .ok (.invokevirtual 362, 3) := by decide +kernel
theorem dX6_joinHeader_52 : decode cX6_joinHeader 52 = .ok (.return_, 1) := by decide +kernel
abbrev rmX6_joinHeader : Room := { frames := 65, cells := 0, slots := 0, locals := 1644 }
noncomputable def fX6_joinHeader (n : Nat) (Sh : Sp) (M : Mm) (a0 : Nat) (a1 : Int32) (a2 : Int32) : Option Mm :=
  tF M a0 2 fun b1 =>
  chk (Sh b1 = some (.inl 0)) <|
  (fX0_headerOf n Sh M b1 a1 a2).bind fun r2 =>
  if r2 = (-1) then
    some M
  else
    tF M a0 2 fun b3 =>
    tF M a0 0 fun b4 =>
    gI Sh M b4 3 4 fun x5 =>
    chk (Sh b3 = some (.inl 0)) <|
    (fX0_headerOf n Sh M b3 x5 a2).bind fun r6 =>
    if r2 = r6 then
      some M
    else
      tF M a0 0 fun b7 =>
      gF Sh M b7 3 0 fun b8 =>
      tF M a0 0 fun b9 =>
      gF Sh M b9 3 2 fun b10 =>
      chk (Sh b8 = some (.inl 4)) <|
      (fX4_joinPart n Sh M b8 r2 b10).bind fun r11 =>
      some r11
set_option maxRecDepth 100000 in
set_option maxHeartbeats 4000000 in
theorem kX6_joinHeader {l : Launch} {G : Gt} {n : Nat} {Sh : Sp} {M : Mm} {a0 : Nat} {a1 : Int32} {a2 : Int32} (hT : Sh a0 = some (.inl 6)) {r : Mm} (h : fX6_joinHeader n Sh M a0 a1 a2 = some r) : Ct l yX6_joinHeader cX6_joinHeader 4 none rmX6_joinHeader G Sh M [.ref a0, .int a1, .int a2] none r := by
  refine Ct.of (by decide) (Nat.le_of_ble_eq_true rfl) ?_
  intro p e s m args below meth c ls C hK hX hP hS hb hlk hr hl
  replace hl : lv_has ls 4 [(0, .ref a0), (1, .int a1), (2, .int a2)] := hl
  unfold fX6_joinHeader at h
  refine lv_aload_n C.1 C.2.1 dX6_joinHeader_0 rfl (lv_at hl 0 rfl) ?_
  refine r_tF C hK hP hT cl_6 (k := 2) (by decide) wd_266 rfl dX6_joinHeader_1 h (fun b1 h => ?_)
  refine lv_iload_n C.1 C.2.1 dX6_joinHeader_4 rfl (lv_at hl 1 rfl) ?_
  refine lv_iload_n C.1 C.2.1 dX6_joinHeader_5 rfl (lv_at hl 2 rfl) ?_
  obtain ⟨hs, h⟩ := chk_some h
  obtain ⟨r2, hc, h⟩ := bS h
  refine r_V1 C hK hX hb hP hS hl.1 (kX0_headerOf (hs) hc) hs cl_0 wd_1075 mo_X0_headerOf wd_1076 wd_1077 ⟨Nat.le_of_ble_eq_true rfl, Nat.le_of_ble_eq_true rfl⟩ ⟨Nat.le_of_ble_eq_true rfl, Nat.le_of_ble_eq_true rfl⟩ rfl (rest := []) rfl (Nat.le_of_ble_eq_true rfl) dX6_joinHeader_6 (fun H locs hP hS => ?_)
  refine lv_istore_n (lv' := [(3, .int r2), (0, .ref a0), (1, .int a1), (2, .int a2)]) C.1 C.2.1 dX6_joinHeader_9 rfl hl (by decide) rfl (fun ls hl => ?_)
  refine lv_iload_n C.1 C.2.1 dX6_joinHeader_10 rfl (lv_at hl 0 rfl) ?_
  refine lv_iconst (v := (-1)) C.1 C.2.1 dX6_joinHeader_11 (by decide) ?_
  refine b_ieq (tgt := 52) C dX6_joinHeader_12 (by decide) h (fun h => ?_) (fun h => ?_)
  · have e := Option.some.inj h
    exact q_v C hlk hP hS hr rfl e.symm dX6_joinHeader_52
  · refine lv_iload_n C.1 C.2.1 dX6_joinHeader_15 rfl (lv_at hl 0 rfl) ?_
    refine lv_aload_n C.1 C.2.1 dX6_joinHeader_16 rfl (lv_at hl 1 rfl) ?_
    refine r_tF C hK hP hT cl_6 (k := 2) (by decide) wd_266 rfl dX6_joinHeader_17 h (fun b3 h => ?_)
    refine lv_aload_n C.1 C.2.1 dX6_joinHeader_20 rfl (lv_at hl 1 rfl) ?_
    refine r_tF C hK hP hT cl_6 (k := 0) (by decide) wd_264 rfl dX6_joinHeader_21 h (fun b4 h => ?_)
    refine r_gIN C hK hP cl_3 (k := 4) (by decide) (hX.nw wd_219) rfl dX6_joinHeader_24 h (fun x5 h => ?_)
    refine lv_iload_n C.1 C.2.1 dX6_joinHeader_27 rfl (lv_at hl 3 rfl) ?_
    obtain ⟨hs, h⟩ := chk_some h
    obtain ⟨r6, hc, h⟩ := bS h
    refine r_V1 C hK hX hb hP hS hl.1 (kX0_headerOf (hs) hc) hs cl_0 wd_1075 mo_X0_headerOf wd_1076 wd_1077 ⟨Nat.le_of_ble_eq_true rfl, Nat.le_of_ble_eq_true rfl⟩ ⟨Nat.le_of_ble_eq_true rfl, Nat.le_of_ble_eq_true rfl⟩ rfl (rest := [.int r2]) rfl (Nat.le_of_ble_eq_true rfl) dX6_joinHeader_28 (fun H locs hP hS => ?_)
    refine b_ieq (tgt := 52) C dX6_joinHeader_31 (by decide) h (fun h => ?_) (fun h => ?_)
    · have e := Option.some.inj h
      exact q_v C hlk hP hS hr rfl e.symm dX6_joinHeader_52
    · refine lv_aload_n C.1 C.2.1 dX6_joinHeader_34 rfl (lv_at hl 1 rfl) ?_
      refine r_tF C hK hP hT cl_6 (k := 0) (by decide) wd_264 rfl dX6_joinHeader_35 h (fun b7 h => ?_)
      refine r_gFN C hK hP cl_3 (k := 0) (by decide) (hX.nw wd_209) rfl dX6_joinHeader_38 h (fun b8 h => ?_)
      refine lv_iload_n C.1 C.2.1 dX6_joinHeader_41 rfl (lv_at hl 0 rfl) ?_
      refine lv_aload_n C.1 C.2.1 dX6_joinHeader_42 rfl (lv_at hl 1 rfl) ?_
      refine r_tF C hK hP hT cl_6 (k := 0) (by decide) wd_264 rfl dX6_joinHeader_43 h (fun b9 h => ?_)
      refine r_gFN C hK hP cl_3 (k := 2) (by decide) (hX.nw wd_214) rfl dX6_joinHeader_46 h (fun b10 h => ?_)
      obtain ⟨hs, h⟩ := chk_some h
      obtain ⟨r11, hc, h⟩ := bS h
      refine r_V0 C hK hX hb hP hS hl.1 (kX4_joinPart (hs) hc) hs cl_4 wd_950 mo_X4_joinPart wd_882 wd_883 ⟨Nat.le_of_ble_eq_true rfl, Nat.le_of_ble_eq_true rfl⟩ ⟨Nat.le_of_ble_eq_true rfl, Nat.le_of_ble_eq_true rfl⟩ rfl (rest := []) rfl (Nat.le_of_ble_eq_true rfl) dX6_joinHeader_49 (fun H locs hP hS => ?_)
      have e := Option.some.inj h
      exact q_v C hlk hP hS hr rfl e.symm dX6_joinHeader_52
theorem dX6_readCell_0 : decode cX6_readCell 0 = .ok (.aload_n 0, 1) := by decide +kernel
theorem dX6_readCell_1 : decode cX6_readCell 1 = .ok (.getfield 10, 3) := by decide +kernel
theorem dX6_readCell_4 : decode cX6_readCell 4 = .ok (.getfield 256, 3) := by decide +kernel
theorem dX6_readCell_7 : decode cX6_readCell 7 = .ok (.invokevirtual 301, 3) := by decide +kernel
theorem dX6_readCell_10 : decode cX6_readCell 10 = .ok (.aload_n 0, 1) := by decide +kernel
theorem dX6_readCell_11 : decode cX6_readCell 11 = .ok (.iload_n 1, 1) := by decide +kernel
theorem dX6_readCell_12 : decode cX6_readCell 12 = .ok (.iconst 0, 1) := by decide +kernel
theorem dX6_readCell_13 : decode cX6_readCell 13 = .ok (.invokevirtual 365, 3) := by decide +kernel
theorem dX6_readCell_16 : decode cX6_readCell 16 = .ok (.aload_n 0, 1) := by decide +kernel
theorem dX6_readCell_17 : decode cX6_readCell 17 = .ok (.iload_n 1, 1) := by decide +kernel
theorem dX6_readCell_18 : decode cX6_readCell 18 = .ok (.iconst 1, 1) := by decide +kernel
theorem dX6_readCell_19 : decode cX6_readCell 19 = .ok (.invokevirtual 365, 3) := by decide +kernel
theorem dX6_readCell_22 : decode cX6_readCell 22 = .ok (.aload_n 0, 1) := by decide +kernel
theorem dX6_readCell_23 : decode cX6_readCell 23 = .ok (.getfield 10, 3) := by decide +kernel
theorem dX6_readCell_26 : decode cX6_readCell 26 = .ok (.getfield 27, 3) := by decide +kernel
theorem dX6_readCell_29 : decode cX6_readCell 29 = .ok (.iload_n 1, 1) := by decide +kernel
theorem dX6_readCell_30 : decode cX6_readCell 30 = .ok (.aload_n 0, 1) := by decide +kernel
theorem dX6_readCell_31 : decode cX6_readCell 31 = .ok (.getfield 10, 3) := by decide +kernel
theorem dX6_readCell_34 : decode cX6_readCell 34 = .ok (.getfield 256, 3) := by decide +kernel
theorem dX6_readCell_37 : decode cX6_readCell 37 = .ok (.invokevirtual 362, 3) := by decide +kernel
theorem dX6_readCell_40 : decode cX6_readCell 40 = .ok (.aload_n 0, 1) := by decide +kernel
theorem dX6_readCell_41 : decode cX6_readCell 41 = .ok (.getfield 10, 3) := by decide +kernel
theorem dX6_readCell_44 : decode cX6_readCell 44 = .ok (.iload_n 1, 1) := by decide +kernel
theorem dX6_readCell_45 : decode cX6_readCell 45 = .ok (.putfield 287, 3) := by decide +kernel
theorem dX6_readCell_48 : decode cX6_readCell 48 = .ok (.return_, 1) := by decide +kernel
abbrev rmX6_readCell : Room := { frames := 66, cells := 0, slots := 0, locals := 1667 }
noncomputable def fX6_readCell (n : Nat) (Sh : Sp) (M : Mm) (a0 : Nat) (a1 : Int32) : Option Mm :=
  tF M a0 0 fun b1 =>
  gF Sh M b1 3 2 fun b2 =>
  chk (Sh b2 = some (.inl 5)) <|
  (fX5_empty n Sh M b2).bind fun r3 =>
  (fX6_joinHeader n Sh r3 a0 a1 0).bind fun r4 =>
  (fX6_joinHeader n Sh r4 a0 a1 1).bind fun r5 =>
  tF r5 a0 0 fun b6 =>
  gF Sh r5 b6 3 0 fun b7 =>
  tF r5 a0 0 fun b8 =>
  gF Sh r5 b8 3 2 fun b9 =>
  chk (Sh b7 = some (.inl 4)) <|
  (fX4_joinPart n Sh r5 b7 a1 b9).bind fun r10 =>
  tF r10 a0 0 fun b11 =>
  pI Sh r10 b11 3 4 a1 fun M12 =>
  some M12
set_option maxRecDepth 100000 in
set_option maxHeartbeats 4000000 in
theorem kX6_readCell {l : Launch} {G : Gt} {n : Nat} {Sh : Sp} {M : Mm} {a0 : Nat} {a1 : Int32} (hT : Sh a0 = some (.inl 6)) {r : Mm} (h : fX6_readCell n Sh M a0 a1 = some r) : Ct l yX6_readCell cX6_readCell 2 none rmX6_readCell G Sh M [.ref a0, .int a1] none r := by
  refine Ct.of (by decide) (Nat.le_of_ble_eq_true rfl) ?_
  intro p e s m args below meth c ls C hK hX hP hS hb hlk hr hl
  replace hl : lv_has ls 2 [(0, .ref a0), (1, .int a1)] := hl
  unfold fX6_readCell at h
  refine lv_aload_n C.1 C.2.1 dX6_readCell_0 rfl (lv_at hl 0 rfl) ?_
  refine r_tF C hK hP hT cl_6 (k := 0) (by decide) wd_264 rfl dX6_readCell_1 h (fun b1 h => ?_)
  refine r_gFN C hK hP cl_3 (k := 2) (by decide) (hX.nw wd_214) rfl dX6_readCell_4 h (fun b2 h => ?_)
  obtain ⟨hs, h⟩ := chk_some h
  obtain ⟨r3, hc, h⟩ := bS h
  refine r_V0 C hK hX hb hP hS hl.1 (kX5_empty (hs) hc) hs cl_5 wd_617 mo_X5_empty wd_141 wd_142 ⟨Nat.le_of_ble_eq_true rfl, Nat.le_of_ble_eq_true rfl⟩ ⟨Nat.le_of_ble_eq_true rfl, Nat.le_of_ble_eq_true rfl⟩ rfl (rest := []) rfl (Nat.le_of_ble_eq_true rfl) dX6_readCell_7 (fun H locs hP hS => ?_)
  refine lv_aload_n C.1 C.2.1 dX6_readCell_10 rfl (lv_at hl 0 rfl) ?_
  refine lv_iload_n C.1 C.2.1 dX6_readCell_11 rfl (lv_at hl 1 rfl) ?_
  refine lv_iconst (v := 0) C.1 C.2.1 dX6_readCell_12 (by decide) ?_
  obtain ⟨r4, hc, h⟩ := bS h
  refine r_V0 C hK hX hb hP hS hl.1 (kX6_joinHeader (hT) hc) hT cl_6 wd_1104 mo_X6_joinHeader wd_1106 wd_22 ⟨Nat.le_of_ble_eq_true rfl, Nat.le_of_ble_eq_true rfl⟩ ⟨Nat.le_of_ble_eq_true rfl, Nat.le_of_ble_eq_true rfl⟩ rfl (rest := []) rfl (Nat.le_of_ble_eq_true rfl) dX6_readCell_13 (fun H locs hP hS => ?_)
  refine lv_aload_n C.1 C.2.1 dX6_readCell_16 rfl (lv_at hl 0 rfl) ?_
  refine lv_iload_n C.1 C.2.1 dX6_readCell_17 rfl (lv_at hl 1 rfl) ?_
  refine lv_iconst (v := 1) C.1 C.2.1 dX6_readCell_18 (by decide) ?_
  obtain ⟨r5, hc, h⟩ := bS h
  refine r_V0 C hK hX hb hP hS hl.1 (kX6_joinHeader (hT) hc) hT cl_6 wd_1104 mo_X6_joinHeader wd_1106 wd_22 ⟨Nat.le_of_ble_eq_true rfl, Nat.le_of_ble_eq_true rfl⟩ ⟨Nat.le_of_ble_eq_true rfl, Nat.le_of_ble_eq_true rfl⟩ rfl (rest := []) rfl (Nat.le_of_ble_eq_true rfl) dX6_readCell_19 (fun H locs hP hS => ?_)
  refine lv_aload_n C.1 C.2.1 dX6_readCell_22 rfl (lv_at hl 0 rfl) ?_
  refine r_tF C hK hP hT cl_6 (k := 0) (by decide) wd_264 rfl dX6_readCell_23 h (fun b6 h => ?_)
  refine r_gFN C hK hP cl_3 (k := 0) (by decide) (hX.nw wd_209) rfl dX6_readCell_26 h (fun b7 h => ?_)
  refine lv_iload_n C.1 C.2.1 dX6_readCell_29 rfl (lv_at hl 1 rfl) ?_
  refine lv_aload_n C.1 C.2.1 dX6_readCell_30 rfl (lv_at hl 0 rfl) ?_
  refine r_tF C hK hP hT cl_6 (k := 0) (by decide) wd_264 rfl dX6_readCell_31 h (fun b8 h => ?_)
  refine r_gFN C hK hP cl_3 (k := 2) (by decide) (hX.nw wd_214) rfl dX6_readCell_34 h (fun b9 h => ?_)
  obtain ⟨hs, h⟩ := chk_some h
  obtain ⟨r10, hc, h⟩ := bS h
  refine r_V0 C hK hX hb hP hS hl.1 (kX4_joinPart (hs) hc) hs cl_4 wd_950 mo_X4_joinPart wd_882 wd_883 ⟨Nat.le_of_ble_eq_true rfl, Nat.le_of_ble_eq_true rfl⟩ ⟨Nat.le_of_ble_eq_true rfl, Nat.le_of_ble_eq_true rfl⟩ rfl (rest := []) rfl (Nat.le_of_ble_eq_true rfl) dX6_readCell_37 (fun H locs hP hS => ?_)
  refine lv_aload_n C.1 C.2.1 dX6_readCell_40 rfl (lv_at hl 0 rfl) ?_
  refine r_tF C hK hP hT cl_6 (k := 0) (by decide) wd_264 rfl dX6_readCell_41 h (fun b11 h => ?_)
  refine lv_iload_n C.1 C.2.1 dX6_readCell_44 rfl (lv_at hl 1 rfl) ?_
  refine r_pIN C hK hP hS cl_3 (k := 4) (by decide) (hX.nw wd_219) rfl rfl (tyX3_ok 4 (by decide)) dX6_readCell_45 h (fun M12 H locs h hP hS => ?_)
  have e := Option.some.inj h
  exact q_v C hlk hP hS hr rfl e.symm dX6_readCell_48
theorem dX6_read_0 : decode cX6_read 0 = .ok (.aload_n 0, 1) := by decide +kernel
theorem dX6_read_1 : decode cX6_read 1 = .ok (.iload_n 1, 1) := by decide +kernel
theorem dX6_read_2 : decode cX6_read 2 = .ok (.invokevirtual 62, 3) := by decide +kernel
theorem dX6_read_5 : decode cX6_read 5 = .ok (.aload_n 0, 1) := by decide +kernel
theorem dX6_read_6 : decode cX6_read 6 = .ok (.getfield 34, 3) := by decide +kernel
theorem dX6_read_9 : decode cX6_read 9 = .ok (.iload_n 1, 1) := by decide +kernel
theorem dX6_read_10 : decode cX6_read 10 = .ok (.invokevirtual 266, 3) := by decide +kernel
theorem dX6_read_13 : decode cX6_read 13 = .ok (.ifCond .ne 14, 3) := by decide +kernel
theorem dX6_read_16 : decode cX6_read 16 = .ok (.new 87, 3) := by decide +kernel
theorem dX6_read_19 : decode cX6_read 19 = .ok (.dup, 1) := by decide +kernel
theorem dX6_read_20 : decode cX6_read 20 = .ok (.ldc_w 282, 3) := by decide +kernel
theorem dX6_read_23 : decode cX6_read 23 = .ok (.invokespecial 91, 3) := by decide +kernel
theorem dX6_read_26 : decode cX6_read 26 = .ok (.athrow, 1) := by decide +kernel
theorem dX6_read_27 : decode cX6_read 27 = .ok (.aload_n 0, 1) := by decide +kernel
theorem dX6_read_28 : decode cX6_read 28 = .ok (.invokevirtual 92, 3) := by decide +kernel
theorem dX6_read_31 : decode cX6_read 31 = .ok (.aload_n 0, 1) := by decide +kernel
theorem dX6_read_32 : decode cX6_read 32 = .ok (.iload_n 1, 1) := by decide +kernel
theorem dX6_read_33 : decode cX6_read 33 = .ok (.invokevirtual 284, 3) := by decide +kernel
theorem dX6_read_36 : decode cX6_read 36 = .ok (.aload_n 0, 1) := by decide +kernel
theorem dX6_read_37 : decode cX6_read 37 = .ok (.getfield 10, 3) := by decide +kernel
theorem dX6_read_40 : decode cX6_read 40 = .ok (.getfield 256, 3) := by decide +kernel
theorem dX6_read_43 : decode cX6_read 43 = .ok (.getfield 171, 3) := by decide +kernel
theorem dX6_read_46 : decode cX6_read 46 = .ok (.ireturn, 1) := by decide +kernel
abbrev rmX6_read : Room := { frames := 67, cells := 2, slots := 12, locals := 1688 }
noncomputable def fX6_read (n : Nat) (Sh : Sp) (M : Mm) (a0 : Nat) (a1 : Int32) : Option ((String ⊕ Int32) × Mm) :=
  xb (fX6_requireNode n Sh M a0 a1) (fun E => some (Sum.inl E, M)) <|
  tF M a0 2 fun b3 =>
  chk (Sh b3 = some (.inl 0)) <|
  (fX0_isCell n Sh M b3 a1).bind fun r4 =>
  if r4 = 0 then
    some (Sum.inl "java/lang/IllegalStateException", M)
  else
    (fX6_keepRecord n Sh M a0).bind fun r5 =>
    (fX6_readCell n Sh r5 a0 a1).bind fun r6 =>
    tF r6 a0 0 fun b7 =>
    gF Sh r6 b7 3 2 fun b8 =>
    gI Sh r6 b8 5 1 fun x9 =>
    some (Sum.inr x9, r6)
set_option maxRecDepth 100000 in
set_option maxHeartbeats 4000000 in
theorem kX6_read {l : Launch} {G : Gt} {n : Nat} {Sh : Sp} {M : Mm} {a0 : Nat} {a1 : Int32} (hT : Sh a0 = some (.inl 6)) (hfl : l.stackTraces = false) {r : ((String ⊕ Int32) × Mm)} (h : fX6_read n Sh M a0 a1 = some r) : CtX l yX6_read cX6_read 2 (some .int) rmX6_read G Sh M [.ref a0, .int a1] (rsI r.1) r.2 := by
  refine CtX.of (by decide) (Nat.le_of_ble_eq_true rfl) ?_
  intro p e s m args below meth c ls C hK hX hP hS hb hlk hr hno hl
  replace hl : lv_has ls 2 [(0, .ref a0), (1, .int a1)] := hl
  unfold fX6_read at h
  refine lv_aload_n C.1 C.2.1 dX6_read_0 rfl (lv_at hl 0 rfl) ?_
  refine lv_iload_n C.1 C.2.1 dX6_read_1 rfl (lv_at hl 1 rfl) ?_
  obtain ⟨z2, hc, hE, h⟩ := xb_some h
  refine r_VX0 C hno hlk hK hX hb hP hS hl.1 (kX6_requireNode hT hfl hc) hT cl_6 wd_671 mo_X6_requireNode wd_673 wd_12 ⟨Nat.le_of_ble_eq_true rfl, Nat.le_of_ble_eq_true rfl⟩ ⟨Nat.le_of_ble_eq_true rfl, Nat.le_of_ble_eq_true rfl⟩ rfl (rest := []) rfl (Nat.le_of_ble_eq_true rfl) dX6_read_2 (k1 := 1) (k2 := 6) ⟨Nat.le_of_ble_eq_true rfl, Nat.le_of_ble_eq_true rfl⟩ ⟨Nat.le_of_ble_eq_true rfl, Nat.le_of_ble_eq_true rfl⟩ (fun E q => by have e := Option.some.inj (hE E q); rw [← e]; exact ⟨rfl, rfl⟩) (fun H locs hz hP hS => ?_)
  replace h := h hz
  refine lv_aload_n C.1 C.2.1 dX6_read_5 rfl (lv_at hl 0 rfl) ?_
  refine r_tF C hK hP hT cl_6 (k := 2) (by decide) wd_266 rfl dX6_read_6 h (fun b3 h => ?_)
  refine lv_iload_n C.1 C.2.1 dX6_read_9 rfl (lv_at hl 1 rfl) ?_
  obtain ⟨hs, h⟩ := chk_some h
  obtain ⟨r4, hc, h⟩ := bS h
  refine r_V1 C hK hX hb hP hS hl.1 (kX0_isCell (hs) hc) hs cl_0 wd_1030 mo_X0_isCell wd_1031 wd_1032 ⟨Nat.le_of_ble_eq_true rfl, Nat.le_of_ble_eq_true rfl⟩ ⟨Nat.le_of_ble_eq_true rfl, Nat.le_of_ble_eq_true rfl⟩ rfl (rest := []) rfl (Nat.le_of_ble_eq_true rfl) dX6_read_10 (fun H locs hP hS => ?_)
  refine b_ne (tgt := 27) C dX6_read_13 (by decide) h (fun h => ?_) (fun h => ?_)
  · have e := Option.some.inj h
    subst e
    exact x_newW (rest := []) (text := "the node is no cell of a row of a table") C hfl hno hX hP hS hlk hl.1 (by decide +kernel) wd_765 wd_88 (by decide +kernel) xw_91 xg_91 dX6_read_16 dX6_read_19 dX6_read_20 dX6_read_23 dX6_read_26 (by decide) (Nat.le_of_ble_eq_true rfl) (Nat.le_of_ble_eq_true rfl) (Nat.le_of_ble_eq_true rfl) (Nat.le_of_ble_eq_true rfl) (Nat.le_of_ble_eq_true rfl) rfl
  · refine lv_aload_n C.1 C.2.1 dX6_read_27 rfl (lv_at hl 0 rfl) ?_
    obtain ⟨r5, hc, h⟩ := bS h
    refine r_V0 C hK hX hb hP hS hl.1 (kX6_keepRecord (hT) hc) hT cl_6 wd_394 mo_X6_keepRecord wd_396 wd_3 ⟨Nat.le_of_ble_eq_true rfl, Nat.le_of_ble_eq_true rfl⟩ ⟨Nat.le_of_ble_eq_true rfl, Nat.le_of_ble_eq_true rfl⟩ rfl (rest := []) rfl (Nat.le_of_ble_eq_true rfl) dX6_read_28 (fun H locs hP hS => ?_)
    refine lv_aload_n C.1 C.2.1 dX6_read_31 rfl (lv_at hl 0 rfl) ?_
    refine lv_iload_n C.1 C.2.1 dX6_read_32 rfl (lv_at hl 1 rfl) ?_
    obtain ⟨r6, hc, h⟩ := bS h
    refine r_V0 C hK hX hb hP hS hl.1 (kX6_readCell (hT) hc) hT cl_6 wd_1100 mo_X6_readCell wd_1102 wd_21 ⟨Nat.le_of_ble_eq_true rfl, Nat.le_of_ble_eq_true rfl⟩ ⟨Nat.le_of_ble_eq_true rfl, Nat.le_of_ble_eq_true rfl⟩ rfl (rest := []) rfl (Nat.le_of_ble_eq_true rfl) dX6_read_33 (fun H locs hP hS => ?_)
    refine lv_aload_n C.1 C.2.1 dX6_read_36 rfl (lv_at hl 0 rfl) ?_
    refine r_tF C hK hP hT cl_6 (k := 0) (by decide) wd_264 rfl dX6_read_37 h (fun b7 h => ?_)
    refine r_gFN C hK hP cl_3 (k := 2) (by decide) (hX.nw wd_214) rfl dX6_read_40 h (fun b8 h => ?_)
    refine r_gIN C hK hP cl_5 (k := 1) (by decide) (hX.nw wd_127) rfl dX6_read_43 h (fun x9 h => ?_)
    have e := Option.some.inj h
    refine W.widen (k := 2) (n := 12) (Nat.le_of_ble_eq_true rfl) (Nat.le_of_ble_eq_true rfl) ?_
    exact x_i C hlk hP hS hr e dX6_read_46
theorem dX6_readBeside_0 : decode cX6_readBeside 0 = .ok (.iload_n 1, 1) := by decide +kernel
theorem dX6_readBeside_1 : decode cX6_readBeside 1 = .ok (.iconst 4, 1) := by decide +kernel
theorem dX6_readBeside_2 : decode cX6_readBeside 2 = .ok (.invokestatic 128, 3) := by decide +kernel
theorem dX6_readBeside_5 : decode cX6_readBeside 5 = .ok (.aload_n 0, 1) := by decide +kernel
theorem dX6_readBeside_6 : decode cX6_readBeside 6 = .ok (.getfield 34, 3) := by decide +kernel
theorem dX6_readBeside_9 : decode cX6_readBeside 9 = .ok (.aload_n 0, 1) := by decide +kernel
theorem dX6_readBeside_10 : decode cX6_readBeside 10 = .ok (.getfield 10, 3) := by decide +kernel
theorem dX6_readBeside_13 : decode cX6_readBeside 13 = .ok (.getfield 287, 3) := by decide +kernel
theorem dX6_readBeside_16 : decode cX6_readBeside 16 = .ok (.iload_n 1, 1) := by decide +kernel
theorem dX6_readBeside_17 : decode cX6_readBeside 17 = .ok (.invokevirtual 290, 3) := by decide +kernel
theorem dX6_readBeside_20 : decode cX6_readBeside 20 = .ok (.istore_n 2, 1) := by decide +kernel
theorem dX6_readBeside_21 : decode cX6_readBeside 21 = .ok (.iload_n 2, 1) := by decide +kernel
theorem dX6_readBeside_22 : decode cX6_readBeside 22 = .ok (.iconst (-1), 1) := by decide +kernel
theorem dX6_readBeside_23 : decode cX6_readBeside 23 = .ok (.if_icmp .ne 14, 3) := by decide +kernel
theorem dX6_readBeside_26 : decode cX6_readBeside 26 = .ok (.new 87, 3) := by decide +kernel
theorem dX6_readBeside_29 : decode cX6_readBeside 29 = .ok (.dup, 1) := by decide +kernel
theorem dX6_readBeside_30 : decode cX6_readBeside 30 = .ok (.ldc_w 292, 3) := by decide +kernel
theorem dX6_readBeside_33 : decode cX6_readBeside 33 = .ok (.invokespecial 91, 3) := by decide +kernel
theorem dX6_readBeside_36 : decode cX6_readBeside 36 = .ok (.athrow, 1) := by decide +kernel
theorem dX6_readBeside_37 : decode cX6_readBeside 37 = .ok (.aload_n 0, 1) := by decide +kernel
theorem dX6_readBeside_38 : decode cX6_readBeside 38 = .ok (.invokevirtual 92, 3) := by decide +kernel
theorem dX6_readBeside_41 : decode cX6_readBeside 41 = .ok (.aload_n 0, 1) := by decide +kernel
theorem dX6_readBeside_42 : decode cX6_readBeside 42 = .ok (.iload_n 2, 1) := by decide +kernel
theorem dX6_readBeside_43 : decode cX6_readBeside 43 = .ok (.invokevirtual 284, 3) := by decide +kernel
theorem dX6_readBeside_46 : decode cX6_readBeside 46 = .ok (.iload_n 2, 1) := by decide +kernel
theorem dX6_readBeside_47 : decode cX6_readBeside 47 = .ok (.ireturn, 1) := by decide +kernel
abbrev rmX6_readBeside : Room := { frames := 67, cells := 2, slots := 12, locals := 1688 }
noncomputable def fX6_readBeside (n : Nat) (Sh : Sp) (M : Mm) (a0 : Nat) (a1 : Int32) : Option ((String ⊕ Int32) × Mm) :=
  xb (fX6_requireKind n Sh M a1 4) (fun E => some (Sum.inl E, M)) <|
  tF M a0 2 fun b3 =>
  tF M a0 0 fun b4 =>
  gI Sh M b4 3 4 fun x5 =>
  chk (Sh b3 = some (.inl 0)) <|
  (fX0_beside n Sh M b3 x5 a1).bind fun r6 =>
  if r6 = (-1) then
    some (Sum.inl "java/lang/IllegalStateException", M)
  else
    (fX6_keepRecord n Sh M a0).bind fun r7 =>
    (fX6_readCell n Sh r7 a0 r6).bind fun r8 =>
    some (Sum.inr r6, r8)
set_option maxRecDepth 100000 in
set_option maxHeartbeats 4000000 in
theorem kX6_readBeside {l : Launch} {G : Gt} {n : Nat} {Sh : Sp} {M : Mm} {a0 : Nat} {a1 : Int32} (hT : Sh a0 = some (.inl 6)) (hfl : l.stackTraces = false) {r : ((String ⊕ Int32) × Mm)} (h : fX6_readBeside n Sh M a0 a1 = some r) : CtX l yX6_readBeside cX6_readBeside 3 (some .int) rmX6_readBeside G Sh M [.ref a0, .int a1] (rsI r.1) r.2 := by
  refine CtX.of (by decide) (Nat.le_of_ble_eq_true rfl) ?_
  intro p e s m args below meth c ls C hK hX hP hS hb hlk hr hno hl
  replace hl : lv_has ls 3 [(0, .ref a0), (1, .int a1)] := hl
  unfold fX6_readBeside at h
  refine lv_iload_n C.1 C.2.1 dX6_readBeside_0 rfl (lv_at hl 1 rfl) ?_
  refine lv_iconst (v := 4) C.1 C.2.1 dX6_readBeside_1 (by decide) ?_
  obtain ⟨z2, hc, hE, h⟩ := xb_some h
  refine r_SX0 C hno hlk hK hX hb hP hS hl.1 (kX6_requireKind hfl hc) wd_839 mo_X6_requireKind wd_840 ⟨Nat.le_of_ble_eq_true rfl, Nat.le_of_ble_eq_true rfl⟩ ⟨Nat.le_of_ble_eq_true rfl, Nat.le_of_ble_eq_true rfl⟩ rfl (rest := []) rfl (Nat.le_of_ble_eq_true rfl) dX6_readBeside_2 (k1 := 1) (k2 := 6) ⟨Nat.le_of_ble_eq_true rfl, Nat.le_of_ble_eq_true rfl⟩ ⟨Nat.le_of_ble_eq_true rfl, Nat.le_of_ble_eq_true rfl⟩ (fun E q => by have e := Option.some.inj (hE E q); rw [← e]; exact ⟨rfl, rfl⟩) (fun H locs hz hP hS => ?_)
  replace h := h hz
  refine lv_aload_n C.1 C.2.1 dX6_readBeside_5 rfl (lv_at hl 0 rfl) ?_
  refine r_tF C hK hP hT cl_6 (k := 2) (by decide) wd_266 rfl dX6_readBeside_6 h (fun b3 h => ?_)
  refine lv_aload_n C.1 C.2.1 dX6_readBeside_9 rfl (lv_at hl 0 rfl) ?_
  refine r_tF C hK hP hT cl_6 (k := 0) (by decide) wd_264 rfl dX6_readBeside_10 h (fun b4 h => ?_)
  refine r_gIN C hK hP cl_3 (k := 4) (by decide) (hX.nw wd_219) rfl dX6_readBeside_13 h (fun x5 h => ?_)
  refine lv_iload_n C.1 C.2.1 dX6_readBeside_16 rfl (lv_at hl 1 rfl) ?_
  obtain ⟨hs, h⟩ := chk_some h
  obtain ⟨r6, hc, h⟩ := bS h
  refine r_V1 C hK hX hb hP hS hl.1 (kX0_beside (hs) hc) hs cl_0 wd_1115 mo_X0_beside wd_1116 wd_1117 ⟨Nat.le_of_ble_eq_true rfl, Nat.le_of_ble_eq_true rfl⟩ ⟨Nat.le_of_ble_eq_true rfl, Nat.le_of_ble_eq_true rfl⟩ rfl (rest := []) rfl (Nat.le_of_ble_eq_true rfl) dX6_readBeside_17 (fun H locs hP hS => ?_)
  refine lv_istore_n (lv' := [(2, .int r6), (0, .ref a0), (1, .int a1)]) C.1 C.2.1 dX6_readBeside_20 rfl hl (by decide) rfl (fun ls hl => ?_)
  refine lv_iload_n C.1 C.2.1 dX6_readBeside_21 rfl (lv_at hl 0 rfl) ?_
  refine lv_iconst (v := (-1)) C.1 C.2.1 dX6_readBeside_22 (by decide) ?_
  refine b_ine (tgt := 37) C dX6_readBeside_23 (by decide) h (fun h => ?_) (fun h => ?_)
  · have e := Option.some.inj h
    subst e
    exact x_newW (rest := []) (text := "there is no cell to read") C hfl hno hX hP hS hlk hl.1 (by decide +kernel) wd_765 wd_88 (by decide +kernel) xw_91 xg_91 dX6_readBeside_26 dX6_readBeside_29 dX6_readBeside_30 dX6_readBeside_33 dX6_readBeside_36 (by decide) (Nat.le_of_ble_eq_true rfl) (Nat.le_of_ble_eq_true rfl) (Nat.le_of_ble_eq_true rfl) (Nat.le_of_ble_eq_true rfl) (Nat.le_of_ble_eq_true rfl) rfl
  · refine lv_aload_n C.1 C.2.1 dX6_readBeside_37 rfl (lv_at hl 1 rfl) ?_
    obtain ⟨r7, hc, h⟩ := bS h
    refine r_V0 C hK hX hb hP hS hl.1 (kX6_keepRecord (hT) hc) hT cl_6 wd_394 mo_X6_keepRecord wd_396 wd_3 ⟨Nat.le_of_ble_eq_true rfl, Nat.le_of_ble_eq_true rfl⟩ ⟨Nat.le_of_ble_eq_true rfl, Nat.le_of_ble_eq_true rfl⟩ rfl (rest := []) rfl (Nat.le_of_ble_eq_true rfl) dX6_readBeside_38 (fun H locs hP hS => ?_)
    refine lv_aload_n C.1 C.2.1 dX6_readBeside_41 rfl (lv_at hl 1 rfl) ?_
    refine lv_iload_n C.1 C.2.1 dX6_readBeside_42 rfl (lv_at hl 0 rfl) ?_
    obtain ⟨r8, hc, h⟩ := bS h
    refine r_V0 C hK hX hb hP hS hl.1 (kX6_readCell (hT) hc) hT cl_6 wd_1100 mo_X6_readCell wd_1102 wd_21 ⟨Nat.le_of_ble_eq_true rfl, Nat.le_of_ble_eq_true rfl⟩ ⟨Nat.le_of_ble_eq_true rfl, Nat.le_of_ble_eq_true rfl⟩ rfl (rest := []) rfl (Nat.le_of_ble_eq_true rfl) dX6_readBeside_43 (fun H locs hP hS => ?_)
    refine lv_iload_n C.1 C.2.1 dX6_readBeside_46 rfl (lv_at hl 0 rfl) ?_
    have e := Option.some.inj h
    refine W.widen (k := 2) (n := 12) (Nat.le_of_ble_eq_true rfl) (Nat.le_of_ble_eq_true rfl) ?_
    exact x_i C hlk hP hS hr e dX6_readBeside_47
theorem dX6_type_0 : decode cX6_type 0 = .ok (.iload_n 1, 1) := by decide +kernel
theorem dX6_type_1 : decode cX6_type 1 = .ok (.bipush 33, 2) := by decide +kernel
theorem dX6_type_3 : decode cX6_type 3 = .ok (.if_icmp .lt 9, 3) := by decide +kernel
theorem dX6_type_6 : decode cX6_type 6 = .ok (.iload_n 1, 1) := by decide +kernel
theorem dX6_type_7 : decode cX6_type 7 = .ok (.bipush 126, 2) := by decide +kernel
theorem dX6_type_9 : decode cX6_type 9 = .ok (.if_icmp .le 14, 3) := by decide +kernel
theorem dX6_type_12 : decode cX6_type 12 = .ok (.new 78, 3) := by decide +kernel
theorem dX6_type_15 : decode cX6_type 15 = .ok (.dup, 1) := by decide +kernel
theorem dX6_type_16 : decode cX6_type 16 = .ok (.ldc_w 294, 3) := by decide +kernel
theorem dX6_type_19 : decode cX6_type 19 = .ok (.invokespecial 82, 3) := by decide +kernel
theorem dX6_type_22 : decode cX6_type 22 = .ok (.athrow, 1) := by decide +kernel
theorem dX6_type_23 : decode cX6_type 23 = .ok (.aload_n 0, 1) := by decide +kernel
theorem dX6_type_24 : decode cX6_type 24 = .ok (.getfield 51, 3) := by decide +kernel
theorem dX6_type_27 : decode cX6_type 27 = .ok (.getfield 171, 3) := by decide +kernel
theorem dX6_type_30 : decode cX6_type 30 = .ok (.bipush 8, 2) := by decide +kernel
theorem dX6_type_32 : decode cX6_type 32 = .ok (.if_icmp .lt 14, 3) := by decide +kernel
theorem dX6_type_35 : decode cX6_type 35 = .ok (.new 87, 3) := by decide +kernel
theorem dX6_type_38 : decode cX6_type 38 = .ok (.dup, 1) := by decide +kernel
theorem dX6_type_39 : decode cX6_type 39 = .ok (.ldc_w 296, 3) := by decide +kernel
theorem dX6_type_42 : decode cX6_type 42 = .ok (.invokespecial 91, 3) := by decide +kernel
theorem dX6_type_45 : decode cX6_type 45 = .ok (.athrow, 1) := by decide +kernel
theorem dX6_type_46 : decode cX6_type 46 = .ok (.aload_n 0, 1) := by decide +kernel
theorem dX6_type_47 : decode cX6_type 47 = .ok (.getfield 51, 3) := by decide +kernel
theorem dX6_type_50 : decode cX6_type 50 = .ok (.iload_n 1, 1) := by decide +kernel
theorem dX6_type_51 : decode cX6_type 51 = .ok (.invokevirtual 298, 3) := by decide +kernel
theorem dX6_type_54 : decode cX6_type 54 = .ok (.aload_n 0, 1) := by decide +kernel
theorem dX6_type_55 : decode cX6_type 55 = .ok (.getfield 51, 3) := by decide +kernel
theorem dX6_type_58 : decode cX6_type 58 = .ok (.getfield 171, 3) := by decide +kernel
theorem dX6_type_61 : decode cX6_type 61 = .ok (.ireturn, 1) := by decide +kernel
abbrev rmX6_type : Room := { frames := 6, cells := 1, slots := 6, locals := 100 }
noncomputable def fX6_type_12 (n : Nat) (Sh : Sp) (a0 : Nat) (a1 : Int32) (M : Mm) : Option ((String ⊕ Int32) × Mm) :=
  some (Sum.inl "java/lang/IllegalArgumentException", M)
noncomputable def fX6_type (n : Nat) (Sh : Sp) (M : Mm) (a0 : Nat) (a1 : Int32) : Option ((String ⊕ Int32) × Mm) :=
  if a1 < 33 then
    fX6_type_12 n Sh a0 a1 M
  else
    if a1 ≤ 126 then
      tF M a0 5 fun b1 =>
      gI Sh M b1 5 1 fun x2 =>
      if x2 < 8 then
        tF M a0 5 fun b3 =>
        chk (Sh b3 = some (.inl 5)) <|
        (fX5_put n Sh M b3 a1).bind fun r4 =>
        tF r4 a0 5 fun b5 =>
        gI Sh r4 b5 5 1 fun x6 =>
        some (Sum.inr x6, r4)
      else
        some (Sum.inl "java/lang/IllegalStateException", M)
    else
      fX6_type_12 n Sh a0 a1 M
set_option maxRecDepth 100000 in
set_option maxHeartbeats 4000000 in
theorem kX6_type {l : Launch} {G : Gt} {n : Nat} {Sh : Sp} {M : Mm} {a0 : Nat} {a1 : Int32} (hT : Sh a0 = some (.inl 6)) (hfl : l.stackTraces = false) {r : ((String ⊕ Int32) × Mm)} (h : fX6_type n Sh M a0 a1 = some r) : CtX l yX6_type cX6_type 2 (some .int) rmX6_type G Sh M [.ref a0, .int a1] (rsI r.1) r.2 := by
  refine CtX.of (by decide) (Nat.le_of_ble_eq_true rfl) ?_
  intro p e s m args below meth c ls C hK hX hP hS hb hlk hr hno hl
  replace hl : lv_has ls 2 [(0, .ref a0), (1, .int a1)] := hl
  have J12 : ∀ (M : Mm) (H : Heap) (locs : List Loc) (ls : Array Slot), HM G Sh M H → SS G s s.heap.size H locs → lv_has ls 2 [(0, .ref a0), (1, .int a1)] → fX6_type_12 n Sh a0 a1 M = some r → W p l e rmX6_type s m args below meth c H locs 0 0 (vx_MQ below (QX G Sh (rsI r.1) r.2) (XX G Sh (rsI r.1) r.2) args s rmX6_type.cells rmX6_type.slots (AA G)) (F0 m 12 ls []) := by
    intro M H locs ls hP hS hl h
    unfold fX6_type_12 at h
    have e := Option.some.inj h
    subst e
    exact x_newW (rest := []) (text := "no such character") C hfl hno hX hP hS hlk hl.1 (by decide +kernel) wd_745 wd_87 (by decide +kernel) xw_82 xg_82 dX6_type_12 dX6_type_15 dX6_type_16 dX6_type_19 dX6_type_22 (by decide) (Nat.le_of_ble_eq_true rfl) (Nat.le_of_ble_eq_true rfl) (Nat.le_of_ble_eq_true rfl) (Nat.le_of_ble_eq_true rfl) (Nat.le_of_ble_eq_true rfl) rfl
  unfold fX6_type at h
  refine lv_iload_n C.1 C.2.1 dX6_type_0 rfl (lv_at hl 1 rfl) ?_
  refine lv_bipush (v := 33) C.1 C.2.1 dX6_type_1 (by decide) ?_
  refine b_ilt (tgt := 12) C dX6_type_3 (by decide) h (fun h => ?_) (fun h => ?_)
  · exact J12 (M) _ _ _ hP hS (lv_sub hl [0, 1] rfl) h
  · refine lv_iload_n C.1 C.2.1 dX6_type_6 rfl (lv_at hl 1 rfl) ?_
    refine lv_bipush (v := 126) C.1 C.2.1 dX6_type_7 (by decide) ?_
    refine b_ile (tgt := 23) C dX6_type_9 (by decide) h (fun h => ?_) (fun h => ?_)
    · refine lv_aload_n C.1 C.2.1 dX6_type_23 rfl (lv_at hl 0 rfl) ?_
      refine r_tF C hK hP hT cl_6 (k := 5) (by decide) wd_269 rfl dX6_type_24 h (fun b1 h => ?_)
      refine r_gIN C hK hP cl_5 (k := 1) (by decide) (hX.nw wd_127) rfl dX6_type_27 h (fun x2 h => ?_)
      refine lv_bipush (v := 8) C.1 C.2.1 dX6_type_30 (by decide) ?_
      refine b_ilt (tgt := 46) C dX6_type_32 (by decide) h (fun h => ?_) (fun h => ?_)
      · refine lv_aload_n C.1 C.2.1 dX6_type_46 rfl (lv_at hl 0 rfl) ?_
        refine r_tF C hK hP hT cl_6 (k := 5) (by decide) wd_269 rfl dX6_type_47 h (fun b3 h => ?_)
        refine lv_iload_n C.1 C.2.1 dX6_type_50 rfl (lv_at hl 1 rfl) ?_
        obtain ⟨hs, h⟩ := chk_some h
        obtain ⟨r4, hc, h⟩ := bS h
        refine r_V0 C hK hX hb hP hS hl.1 (kX5_put (hs) hc) hs cl_5 wd_1129 mo_X5_put wd_479 wd_480 ⟨Nat.le_of_ble_eq_true rfl, Nat.le_of_ble_eq_true rfl⟩ ⟨Nat.le_of_ble_eq_true rfl, Nat.le_of_ble_eq_true rfl⟩ rfl (rest := []) rfl (Nat.le_of_ble_eq_true rfl) dX6_type_51 (fun H locs hP hS => ?_)
        refine lv_aload_n C.1 C.2.1 dX6_type_54 rfl (lv_at hl 0 rfl) ?_
        refine r_tF C hK hP hT cl_6 (k := 5) (by decide) wd_269 rfl dX6_type_55 h (fun b5 h => ?_)
        refine r_gIN C hK hP cl_5 (k := 1) (by decide) (hX.nw wd_127) rfl dX6_type_58 h (fun x6 h => ?_)
        have e := Option.some.inj h
        refine W.widen (k := 1) (n := 6) (Nat.le_of_ble_eq_true rfl) (Nat.le_of_ble_eq_true rfl) ?_
        exact x_i C hlk hP hS hr e dX6_type_61
      · have e := Option.some.inj h
        subst e
        exact x_newW (rest := []) (text := "the buffer is full") C hfl hno hX hP hS hlk hl.1 (by decide +kernel) wd_765 wd_88 (by decide +kernel) xw_91 xg_91 dX6_type_35 dX6_type_38 dX6_type_39 dX6_type_42 dX6_type_45 (by decide) (Nat.le_of_ble_eq_true rfl) (Nat.le_of_ble_eq_true rfl) (Nat.le_of_ble_eq_true rfl) (Nat.le_of_ble_eq_true rfl) (Nat.le_of_ble_eq_true rfl) rfl
    · exact J12 (M) _ _ _ hP hS (lv_sub hl [0, 1] rfl) h
theorem dX6_clearText_0 : decode cX6_clearText 0 = .ok (.aload_n 0, 1) := by decide +kernel
theorem dX6_clearText_1 : decode cX6_clearText 1 = .ok (.getfield 51, 3) := by decide +kernel
theorem dX6_clearText_4 : decode cX6_clearText 4 = .ok (.getfield 171, 3) := by decide +kernel
theorem dX6_clearText_7 : decode cX6_clearText 7 = .ok (.istore_n 1, 1) := by decide +kernel
theorem dX6_clearText_8 : decode cX6_clearText 8 = .ok (.aload_n 0, 1) := by decide +kernel
theorem dX6_clearText_9 : decode cX6_clearText 9 = .ok (.getfield 51, 3) := by decide +kernel
theorem dX6_clearText_12 : decode cX6_clearText 12 = .ok (.invokevirtual 301, 3) := by decide +kernel
theorem dX6_clearText_15 : decode cX6_clearText 15 = .ok (.iload_n 1, 1) := by decide +kernel
theorem dX6_clearText_16 : decode cX6_clearText 16 = .ok (.ireturn, 1) := by decide +kernel
abbrev rmX6_clearText : Room := { frames := 2, cells := 0, slots := 0, locals := 60 }
noncomputable def fX6_clearText (n : Nat) (Sh : Sp) (M : Mm) (a0 : Nat) : Option (Int32 × Mm) :=
  tF M a0 5 fun b1 =>
  gI Sh M b1 5 1 fun x2 =>
  tF M a0 5 fun b3 =>
  chk (Sh b3 = some (.inl 5)) <|
  (fX5_empty n Sh M b3).bind fun r4 =>
  some (x2, r4)
set_option maxRecDepth 100000 in
set_option maxHeartbeats 4000000 in
theorem kX6_clearText {l : Launch} {G : Gt} {n : Nat} {Sh : Sp} {M : Mm} {a0 : Nat} (hT : Sh a0 = some (.inl 6)) {r : (Int32 × Mm)} (h : fX6_clearText n Sh M a0 = some r) : Ct l yX6_clearText cX6_clearText 2 (some .int) rmX6_clearText G Sh M [.ref a0] (some (.int r.1)) r.2 := by
  refine Ct.of (by decide) (Nat.le_of_ble_eq_true rfl) ?_
  intro p e s m args below meth c ls C hK hX hP hS hb hlk hr hl
  replace hl : lv_has ls 2 [(0, .ref a0)] := hl
  unfold fX6_clearText at h
  refine lv_aload_n C.1 C.2.1 dX6_clearText_0 rfl (lv_at hl 0 rfl) ?_
  refine r_tF C hK hP hT cl_6 (k := 5) (by decide) wd_269 rfl dX6_clearText_1 h (fun b1 h => ?_)
  refine r_gIN C hK hP cl_5 (k := 1) (by decide) (hX.nw wd_127) rfl dX6_clearText_4 h (fun x2 h => ?_)
  refine lv_istore_n (lv' := [(1, .int x2), (0, .ref a0)]) C.1 C.2.1 dX6_clearText_7 rfl hl (by decide) rfl (fun ls hl => ?_)
  refine lv_aload_n C.1 C.2.1 dX6_clearText_8 rfl (lv_at hl 1 rfl) ?_
  refine r_tF C hK hP hT cl_6 (k := 5) (by decide) wd_269 rfl dX6_clearText_9 h (fun b3 h => ?_)
  obtain ⟨hs, h⟩ := chk_some h
  obtain ⟨r4, hc, h⟩ := bS h
  refine r_V0 C hK hX hb hP hS hl.1 (kX5_empty (hs) hc) hs cl_5 wd_617 mo_X5_empty wd_141 wd_142 ⟨Nat.le_of_ble_eq_true rfl, Nat.le_of_ble_eq_true rfl⟩ ⟨Nat.le_of_ble_eq_true rfl, Nat.le_of_ble_eq_true rfl⟩ rfl (rest := []) rfl (Nat.le_of_ble_eq_true rfl) dX6_clearText_12 (fun H locs hP hS => ?_)
  refine lv_iload_n C.1 C.2.1 dX6_clearText_15 rfl (lv_at hl 0 rfl) ?_
  have e := Option.some.inj h
  exact q_i C hlk hP hS hr (by rw [← e]) (by rw [← e]) dX6_clearText_16
theorem dX6_undo_0 : decode cX6_undo 0 = .ok (.aload_n 0, 1) := by decide +kernel
theorem dX6_undo_1 : decode cX6_undo 1 = .ok (.getfield 42, 3) := by decide +kernel
theorem dX6_undo_4 : decode cX6_undo 4 = .ok (.ifCond .le 15, 3) := by decide +kernel
theorem dX6_undo_7 : decode cX6_undo 7 = .ok (.aload_n 0, 1) := by decide +kernel
theorem dX6_undo_8 : decode cX6_undo 8 = .ok (.getfield 42, 3) := by decide +kernel
theorem dX6_undo_11 : decode cX6_undo 11 = .ok (.aload_n 0, 1) := by decide +kernel
theorem dX6_undo_12 : decode cX6_undo 12 = .ok (.getfield 38, 3) := by decide +kernel
theorem dX6_undo_15 : decode cX6_undo 15 = .ok (.arraylength, 1) := by decide +kernel
theorem dX6_undo_16 : decode cX6_undo 16 = .ok (.if_icmp .le 14, 3) := by decide +kernel
theorem dX6_undo_19 : decode cX6_undo 19 = .ok (.new 87, 3) := by decide +kernel
theorem dX6_undo_22 : decode cX6_undo 22 = .ok (.dup, 1) := by decide +kernel
theorem dX6_undo_23 : decode cX6_undo 23 = .ok (.ldc_w 304, 3) := by decide +kernel
theorem dX6_undo_26 : decode cX6_undo 26 = .ok (.invokespecial 91, 3) := by decide +kernel
theorem dX6_undo_29 : decode cX6_undo 29 = .ok (.athrow, 1) := by decide +kernel
theorem dX6_undo_30 : decode cX6_undo 30 = .ok (.aload_n 0, 1) := by decide +kernel
theorem dX6_undo_31 : decode cX6_undo 31 = .ok (.dup, 1) := by decide +kernel
theorem dX6_undo_32 : decode cX6_undo 32 = .ok (.getfield 42, 3) := by decide +kernel
theorem dX6_undo_35 : decode cX6_undo 35 = .ok (.iconst 1, 1) := by decide +kernel
theorem dX6_undo_36 : decode cX6_undo 36 = .ok (.isub, 1) := by decide +kernel
theorem dX6_undo_37 : decode cX6_undo 37 = .ok (.putfield 42, 3) := by decide +kernel
theorem dX6_undo_40 : decode cX6_undo 40 = .ok (.aload_n 0, 1) := by decide +kernel
theorem dX6_undo_41 : decode cX6_undo 41 = .ok (.getfield 10, 3) := by decide +kernel
theorem dX6_undo_44 : decode cX6_undo 44 = .ok (.aload_n 0, 1) := by decide +kernel
theorem dX6_undo_45 : decode cX6_undo 45 = .ok (.getfield 38, 3) := by decide +kernel
theorem dX6_undo_48 : decode cX6_undo 48 = .ok (.aload_n 0, 1) := by decide +kernel
theorem dX6_undo_49 : decode cX6_undo 49 = .ok (.getfield 42, 3) := by decide +kernel
theorem dX6_undo_52 : decode cX6_undo 52 = .ok (.aaload, 1) := by decide +kernel
theorem dX6_undo_53 : decode cX6_undo 53 = .ok (.invokevirtual 306, 3) := by decide +kernel
theorem dX6_undo_56 : decode cX6_undo 56 = .ok (.aload_n 0, 1) := by decide +kernel
theorem dX6_undo_57 : decode cX6_undo 57 = .ok (.getfield 42, 3) := by decide +kernel
theorem dX6_undo_60 : decode cX6_undo 60 = .ok (.ireturn, 1) := by decide +kernel
abbrev rmX6_undo : Room := { frames := 6, cells := 1, slots := 6, locals := 104 }
noncomputable def fX6_undo_19 (n : Nat) (Sh : Sp) (a0 : Nat) (M : Mm) : Option ((String ⊕ Int32) × Mm) :=
  some (Sum.inl "java/lang/IllegalStateException", M)
noncomputable def fX6_undo (n : Nat) (Sh : Sp) (M : Mm) (a0 : Nat) : Option ((String ⊕ Int32) × Mm) :=
  tI M a0 4 fun x1 =>
  if x1 ≤ 0 then
    fX6_undo_19 n Sh a0 M
  else
    tI M a0 4 fun x2 =>
    tF M a0 3 fun b3 =>
    aN Sh b3 fun x4 =>
    if x2 ≤ x4 then
      tI M a0 4 fun x5 =>
      qI M a0 4 (x5 - 1) fun M6 =>
      tF M6 a0 0 fun b7 =>
      tF M6 a0 3 fun b8 =>
      tI M6 a0 4 fun x9 =>
      aR Sh M6 b8 5 x9 fun b10 =>
      chk (Sh b7 = some (.inl 3)) <|
      (fX3_copyFrom n Sh M6 b7 b10).bind fun r11 =>
      tI r11 a0 4 fun x12 =>
      some (Sum.inr x12, r11)
    else
      fX6_undo_19 n Sh a0 M
set_option maxRecDepth 100000 in
set_option maxHeartbeats 4000000 in
theorem kX6_undo {l : Launch} {G : Gt} {n : Nat} {Sh : Sp} {M : Mm} {a0 : Nat} (hT : Sh a0 = some (.inl 6)) (hfl : l.stackTraces = false) {r : ((String ⊕ Int32) × Mm)} (h : fX6_undo n Sh M a0 = some r) : CtX l yX6_undo cX6_undo 1 (some .int) rmX6_undo G Sh M [.ref a0] (rsI r.1) r.2 := by
  refine CtX.of (by decide) (Nat.le_of_ble_eq_true rfl) ?_
  intro p e s m args below meth c ls C hK hX hP hS hb hlk hr hno hl
  replace hl : lv_has ls 1 [(0, .ref a0)] := hl
  have J19 : ∀ (M : Mm) (H : Heap) (locs : List Loc) (ls : Array Slot), HM G Sh M H → SS G s s.heap.size H locs → lv_has ls 1 [(0, .ref a0)] → fX6_undo_19 n Sh a0 M = some r → W p l e rmX6_undo s m args below meth c H locs 0 0 (vx_MQ below (QX G Sh (rsI r.1) r.2) (XX G Sh (rsI r.1) r.2) args s rmX6_undo.cells rmX6_undo.slots (AA G)) (F0 m 19 ls []) := by
    intro M H locs ls hP hS hl h
    unfold fX6_undo_19 at h
    have e := Option.some.inj h
    subst e
    exact x_newW (rest := []) (text := "there is no record") C hfl hno hX hP hS hlk hl.1 (by decide +kernel) wd_765 wd_88 (by decide +kernel) xw_91 xg_91 dX6_undo_19 dX6_undo_22 dX6_undo_23 dX6_undo_26 dX6_undo_29 (by decide) (Nat.le_of_ble_eq_true rfl) (Nat.le_of_ble_eq_true rfl) (Nat.le_of_ble_eq_true rfl) (Nat.le_of_ble_eq_true rfl) (Nat.le_of_ble_eq_true rfl) rfl
  unfold fX6_undo at h
  refine lv_aload_n C.1 C.2.1 dX6_undo_0 rfl (lv_at hl 0 rfl) ?_
  refine r_tI C hK hP hT cl_6 (k := 4) (by decide) wd_268 rfl dX6_undo_1 h (fun x1 h => ?_)
  refine b_le (tgt := 19) C dX6_undo_4 (by decide) h (fun h => ?_) (fun h => ?_)
  · exact J19 (M) _ _ _ hP hS (lv_sub hl [0] rfl) h
  · refine lv_aload_n C.1 C.2.1 dX6_undo_7 rfl (lv_at hl 0 rfl) ?_
    refine r_tI C hK hP hT cl_6 (k := 4) (by decide) wd_268 rfl dX6_undo_8 h (fun x2 h => ?_)
    refine lv_aload_n C.1 C.2.1 dX6_undo_11 rfl (lv_at hl 0 rfl) ?_
    refine r_tF C hK hP hT cl_6 (k := 3) (by decide) wd_267 rfl dX6_undo_12 h (fun b3 h => ?_)
    refine r_aN C hK hP dX6_undo_15 h (fun x4 h => ?_)
    refine b_ile (tgt := 30) C dX6_undo_16 (by decide) h (fun h => ?_) (fun h => ?_)
    · refine lv_aload_n C.1 C.2.1 dX6_undo_30 rfl (lv_at hl 0 rfl) ?_
      refine lv_dup C.1 C.2.1 dX6_undo_31 rfl ?_
      refine r_tI C hK hP hT cl_6 (k := 4) (by decide) wd_268 rfl dX6_undo_32 h (fun x5 h => ?_)
      refine lv_iconst (v := 1) C.1 C.2.1 dX6_undo_35 (by decide) ?_
      refine lv_isub C.1 C.2.1 dX6_undo_36 ?_
      refine r_qI C hK hP hS hT cl_6 (k := 4) (by decide) wd_268 rfl rfl (tyX6_ok 4 (by decide)) dX6_undo_37 h (fun M6 H locs h hP hS => ?_)
      refine lv_aload_n C.1 C.2.1 dX6_undo_40 rfl (lv_at hl 0 rfl) ?_
      refine r_tF C hK hP hT cl_6 (k := 0) (by decide) wd_264 rfl dX6_undo_41 h (fun b7 h => ?_)
      refine lv_aload_n C.1 C.2.1 dX6_undo_44 rfl (lv_at hl 0 rfl) ?_
      refine r_tF C hK hP hT cl_6 (k := 3) (by decide) wd_267 rfl dX6_undo_45 h (fun b8 h => ?_)
      refine lv_aload_n C.1 C.2.1 dX6_undo_48 rfl (lv_at hl 0 rfl) ?_
      refine r_tI C hK hP hT cl_6 (k := 4) (by decide) wd_268 rfl dX6_undo_49 h (fun x9 h => ?_)
      refine r_aR5 C hK hP dX6_undo_52 h (fun b10 h => ?_)
      obtain ⟨hs, h⟩ := chk_some h
      obtain ⟨r11, hc, h⟩ := bS h
      refine r_V0 C hK hX hb hP hS hl.1 (kX3_copyFrom (hs) hc) hs cl_3 wd_398 mo_X3_copyFrom wd_399 wd_400 ⟨Nat.le_of_ble_eq_true rfl, Nat.le_of_ble_eq_true rfl⟩ ⟨Nat.le_of_ble_eq_true rfl, Nat.le_of_ble_eq_true rfl⟩ rfl (rest := []) rfl (Nat.le_of_ble_eq_true rfl) dX6_undo_53 (fun H locs hP hS => ?_)
      refine lv_aload_n C.1 C.2.1 dX6_undo_56 rfl (lv_at hl 0 rfl) ?_
      refine r_tI C hK hP hT cl_6 (k := 4) (by decide) wd_268 rfl dX6_undo_57 h (fun x12 h => ?_)
      have e := Option.some.inj h
      refine W.widen (k := 1) (n := 6) (Nat.le_of_ble_eq_true rfl) (Nat.le_of_ble_eq_true rfl) ?_
      exact x_i C hlk hP hS hr e dX6_undo_60
    · exact J19 (M) _ _ _ hP hS (lv_sub hl [0] rfl) h
theorem dX6_mix_0 : decode cX6_mix 0 = .ok (.ldc2_w 369, 3) := by decide +kernel
theorem dX6_mix_3 : decode cX6_mix 3 = .ok (.lload_n 0, 1) := by decide +kernel
theorem dX6_mix_4 : decode cX6_mix 4 = .ok (.lmul, 1) := by decide +kernel
theorem dX6_mix_5 : decode cX6_mix 5 = .ok (.lload_n 2, 1) := by decide +kernel
theorem dX6_mix_6 : decode cX6_mix 6 = .ok (.ladd, 1) := by decide +kernel
theorem dX6_mix_7 : decode cX6_mix 7 = .ok (.lreturn, 1) := by decide +kernel
abbrev rmX6_mix : Room := { frames := 1, cells := 0, slots := 0, locals := 40 }
noncomputable def fX6_mix (n : Nat) (Sh : Sp) (M : Mm) (a0 : Int64) (a2 : Int64) : Option Int64 :=
  some (((31 : Int64) * a0) + a2)
set_option maxRecDepth 100000 in
set_option maxHeartbeats 4000000 in
theorem kX6_mix {l : Launch} {G : Gt} {n : Nat} {Sh : Sp} {M : Mm} {a0 : Int64} {a2 : Int64} {r : Int64} (h : fX6_mix n Sh M a0 a2 = some r) : Ct l yX6_mix cX6_mix 4 (some .long) rmX6_mix G Sh M [.long a0, .long a2] (some (.long r)) M := by
  refine Ct.of (by decide) (Nat.le_of_ble_eq_true rfl) ?_
  intro p e s m args below meth c ls C hK hX hP hS hb hlk hr hl
  replace hl : lv_has ls 4 [(0, .long a0), (2, .long a2)] := hl
  unfold fX6_mix at h
  refine lv_ldc2 (v := 31) C.1 C.2.1 C.2.2.2.1 (C.2.2.2.2 _ wd_627) dX6_mix_0 ?_
  refine lv_lload_n C.1 C.2.1 dX6_mix_3 rfl (lv_at hl 0 rfl) ?_
  refine lv_lmul C.1 C.2.1 dX6_mix_4 ?_
  refine lv_lload_n C.1 C.2.1 dX6_mix_5 rfl (lv_at hl 1 rfl) ?_
  refine lv_ladd C.1 C.2.1 dX6_mix_6 ?_
  have e := Option.some.inj h
  exact q_l C hlk hP hS hr (by rw [← e]) rfl dX6_mix_7
theorem dX6_mixWords_0 : decode cX6_mixWords 0 = .ok (.lload_n 0, 1) := by decide +kernel
theorem dX6_mixWords_1 : decode cX6_mixWords 1 = .ok (.lstore_n 3, 1) := by decide +kernel
theorem dX6_mixWords_2 : decode cX6_mixWords 2 = .ok (.iconst 0, 1) := by decide +kernel
theorem dX6_mixWords_3 : decode cX6_mixWords 3 = .ok (.istore 5, 2) := by decide +kernel
theorem dX6_mixWords_5 : decode cX6_mixWords 5 = .ok (.iload 5, 2) := by decide +kernel
theorem dX6_mixWords_7 : decode cX6_mixWords 7 = .ok (.aload_n 2, 1) := by decide +kernel
theorem dX6_mixWords_8 : decode cX6_mixWords 8 = .ok (.getfield 171, 3) := by decide +kernel
theorem dX6_mixWords_11 : decode cX6_mixWords 11 = .ok (.if_icmp .ge 21, 3) := by decide +kernel
theorem dX6_mixWords_14 : decode cX6_mixWords 14 = .ok (.lload_n 3, 1) := by decide +kernel
theorem dX6_mixWords_15 : decode cX6_mixWords 15 = .ok (.aload_n 2, 1) := by decide +kernel
theorem dX6_mixWords_16 : decode cX6_mixWords 16 = .ok (.iload 5, 2) := by decide +kernel
theorem dX6_mixWords_18 : decode cX6_mixWords 18 = .ok (.invokevirtual 188, 3) := by decide +kernel
theorem dX6_mixWords_21 : decode cX6_mixWords 21 = .ok (.i2l, 1) := by decide +kernel
theorem dX6_mixWords_22 : decode cX6_mixWords 22 = .ok (.invokestatic 314, 3) := by decide +kernel
theorem dX6_mixWords_25 : decode cX6_mixWords 25 = .ok (.lstore_n 3, 1) := by decide +kernel
theorem dX6_mixWords_26 : decode cX6_mixWords 26 = .ok (.iinc 5 1, 3) := by decide +kernel
theorem dX6_mixWords_29 : decode cX6_mixWords 29 = .ok (.goto (-24), 3) := by decide +kernel
theorem dX6_mixWords_32 : decode cX6_mixWords 32 = .ok (.lload_n 3, 1) := by decide +kernel
theorem dX6_mixWords_33 : decode cX6_mixWords 33 = .ok (.lreturn, 1) := by decide +kernel
abbrev rmX6_mixWords : Room := { frames := 2, cells := 0, slots := 0, locals := 63 }
noncomputable def fX6_mixWords_32 (n : Nat) (Sh : Sp) (M : Mm) (a0 : Int64) (a2 : Nat) (v3 : Int64) : Option Int64 :=
  some v3
noncomputable def fX6_mixWords_5b (n : Nat) (Sh : Sp) (M : Mm) (a0 : Int64) (a2 : Nat) (v3 : Int64) (v5 : Int32) : Option ((Int64 × Int32) ⊕ Int64) :=
  gI Sh M a2 5 1 fun x1 =>
  if v5 < x1 then
    chk (Sh a2 = some (.inl 5)) <|
    (fX5_at n Sh M a2 v5).bind fun r2 =>
    (fX6_mix n Sh M v3 (Int32.toInt64 r2)).bind fun r3 =>
    some (Sum.inl (r3, (v5 + 1)))
  else
    (fX6_mixWords_32 n Sh M a0 a2 v3).map Sum.inr
noncomputable def fX6_mixWords_5 (n : Nat) (Sh : Sp) (M : Mm) (a0 : Int64) (a2 : Nat) (v3 : Int64) (v5 : Int32) : Option Int64 :=
  iter n (fun s => fX6_mixWords_5b n Sh M a0 a2 s.1 s.2) (v3, v5)
noncomputable def fX6_mixWords (n : Nat) (Sh : Sp) (M : Mm) (a0 : Int64) (a2 : Nat) : Option Int64 :=
  fX6_mixWords_5 n Sh M a0 a2 a0 0
set_option maxRecDepth 100000 in
set_option maxHeartbeats 4000000 in
theorem kX6_mixWords {l : Launch} {G : Gt} {n : Nat} {Sh : Sp} {M : Mm} {a0 : Int64} {a2 : Nat} {r : Int64} (h : fX6_mixWords n Sh M a0 a2 = some r) : Ct l yX6_mixWords cX6_mixWords 6 (some .long) rmX6_mixWords G Sh M [.long a0, .ref a2] (some (.long r)) M := by
  refine Ct.of (by decide) (Nat.le_of_ble_eq_true rfl) ?_
  intro p e s m args below meth c ls C hK hX hP hS hb hlk hr hl
  replace hl : lv_has ls 6 [(0, .long a0), (2, .ref a2)] := hl
  have J32 : ∀ (v3 : Int64) (H : Heap) (locs : List Loc) (ls : Array Slot), HM G Sh M H → SS G s s.heap.size H locs → lv_has ls 6 [(0, .long a0), (2, .ref a2), (3, .long v3)] → fX6_mixWords_32 n Sh M a0 a2 v3 = some r → W p l e rmX6_mixWords s m args below meth c H locs 0 0 (MQ below (QG G Sh M (some (.long r))) args s rmX6_mixWords.cells rmX6_mixWords.slots (AA G)) (F0 m 32 ls []) := by
    intro v3 H locs ls hP hS hl h
    unfold fX6_mixWords_32 at h
    refine lv_lload_n C.1 C.2.1 dX6_mixWords_32 rfl (lv_at hl 2 rfl) ?_
    have e := Option.some.inj h
    exact q_l C hlk hP hS hr (by rw [← e]) rfl dX6_mixWords_33
  have J5 : ∀ (k : Nat) (v3 : Int64) (v5 : Int32) (H : Heap) (locs : List Loc) (ls : Array Slot), HM G Sh M H → SS G s s.heap.size H locs → lv_has ls 6 [(0, .long a0), (2, .ref a2), (3, .long v3), (5, .int v5)] → iter k (fun s => fX6_mixWords_5b n Sh M a0 a2 s.1 s.2) (v3, v5) = some r → W p l e rmX6_mixWords s m args below meth c H locs 0 0 (MQ below (QG G Sh M (some (.long r))) args s rmX6_mixWords.cells rmX6_mixWords.slots (AA G)) (F0 m 5 ls []) := by
    intro k
    induction k with
    | zero => intro v3 v5 H locs ls hP hS hl h; exact (iter_0 h).elim
    | succ k ih1 =>
      intro v3 v5 H locs ls hP hS hl h
      obtain ⟨z1, h, hz1⟩ := iter_some h
      replace h : fX6_mixWords_5b n Sh M a0 a2 v3 v5 = some z1 := h
      unfold fX6_mixWords_5b at h
      refine lv_iload C.1 C.2.1 dX6_mixWords_5 (lv_at hl 3 rfl) ?_
      refine lv_aload_n C.1 C.2.1 dX6_mixWords_7 rfl (lv_at hl 1 rfl) ?_
      refine r_gIN C hK hP cl_5 (k := 1) (by decide) (hX.nw wd_127) rfl dX6_mixWords_8 h (fun x1 h => ?_)
      refine b_ige (tgt := 32) C dX6_mixWords_11 (by decide) h (fun h => ?_) (fun h => ?_)
      · refine lv_lload_n C.1 C.2.1 dX6_mixWords_14 rfl (lv_at hl 2 rfl) ?_
        refine lv_aload_n C.1 C.2.1 dX6_mixWords_15 rfl (lv_at hl 1 rfl) ?_
        refine lv_iload C.1 C.2.1 dX6_mixWords_16 (lv_at hl 3 rfl) ?_
        obtain ⟨hs, h⟩ := chk_some h
        obtain ⟨r2, hc, h⟩ := bS h
        refine r_V1 C hK hX hb hP hS hl.1 (kX5_at (hs) hc) hs cl_5 wd_604 mo_X5_at wd_483 wd_484 ⟨Nat.le_of_ble_eq_true rfl, Nat.le_of_ble_eq_true rfl⟩ ⟨Nat.le_of_ble_eq_true rfl, Nat.le_of_ble_eq_true rfl⟩ rfl (rest := [.long v3]) rfl (Nat.le_of_ble_eq_true rfl) dX6_mixWords_18 (fun H locs hP hS => ?_)
        refine lv_i2l C.1 C.2.1 dX6_mixWords_21 rfl ?_
        obtain ⟨r3, hc, h⟩ := bS h
        refine r_S1 C hK hX hb hP hS hl.1 (kX6_mix hc) wd_624 mo_X6_mix wd_625 ⟨Nat.le_of_ble_eq_true rfl, Nat.le_of_ble_eq_true rfl⟩ ⟨Nat.le_of_ble_eq_true rfl, Nat.le_of_ble_eq_true rfl⟩ rfl (rest := []) rfl (Nat.le_of_ble_eq_true rfl) dX6_mixWords_22 (fun H locs hP hS => ?_)
        refine lv_lstore_n (lv' := [(3, .long r3), (0, .long a0), (2, .ref a2), (5, .int v5)]) C.1 C.2.1 dX6_mixWords_25 rfl hl (by decide) rfl (fun ls hl => ?_)
        refine lv_iinc (v := (v5 + 1)) (lv' := [(5, .int (v5 + 1)), (3, .long r3), (0, .long a0), (2, .ref a2)]) C.1 C.2.1 dX6_mixWords_26 hl (k := 3) rfl rfl (by decide) rfl (fun ls hl => ?_)
        refine lv_goto (tgt := 5) C.1 C.2.1 dX6_mixWords_29 (by decide) ?_
        have e := Option.some.inj h
        rw [← e] at hz1
        exact ih1 (r3) ((v5 + 1)) _ _ _ hP hS (lv_sub hl [2, 3, 1, 0] rfl) (itK_inl hz1)
      · obtain ⟨w1, h, e⟩ := mS h
        rw [← e] at hz1
        replace e := itK_inr hz1
        rw [e] at h
        exact J32 (v3) _ _ _ hP hS (lv_sub hl [0, 1, 2] rfl) h
  unfold fX6_mixWords at h
  refine lv_lload_n C.1 C.2.1 dX6_mixWords_0 rfl (lv_at hl 0 rfl) ?_
  refine lv_lstore_n (lv' := [(3, .long a0), (0, .long a0), (2, .ref a2)]) C.1 C.2.1 dX6_mixWords_1 rfl hl (by decide) rfl (fun ls hl => ?_)
  refine lv_iconst (v := 0) C.1 C.2.1 dX6_mixWords_2 (by decide) ?_
  refine lv_istore (lv' := [(5, .int 0), (3, .long a0), (0, .long a0), (2, .ref a2)]) C.1 C.2.1 dX6_mixWords_3 hl (by decide) rfl (fun ls hl => ?_)
  exact J5  n (a0) (0) _ _ _ hP hS (lv_sub hl [2, 3, 1, 0] rfl) h
theorem dX6_mixNode_0 : decode cX6_mixNode 0 = .ok (.lload_n 1, 1) := by decide +kernel
theorem dX6_mixNode_1 : decode cX6_mixNode 1 = .ok (.iload_n 3, 1) := by decide +kernel
theorem dX6_mixNode_2 : decode cX6_mixNode 2 = .ok (.i2l, 1) := by decide +kernel
theorem dX6_mixNode_3 : decode cX6_mixNode 3 = .ok (.invokestatic 314, 3) := by decide +kernel
theorem dX6_mixNode_6 : decode cX6_mixNode 6 = .ok (.lstore 4, 2) := by decide +kernel
theorem dX6_mixNode_8 : decode cX6_mixNode 8 = .ok (.iconst 0, 1) := by decide +kernel
theorem dX6_mixNode_9 : decode cX6_mixNode 9 = .ok (.istore 6, 2) := by decide +kernel
theorem dX6_mixNode_11 : decode cX6_mixNode 11 = .ok (.iload 6, 2) := by decide +kernel
theorem dX6_mixNode_13 : decode cX6_mixNode 13 = .ok (.bipush 15, 2) := by decide +kernel
theorem dX6_mixNode_15 : decode cX6_mixNode 15 = .ok (.if_icmp .ge 30, 3) := by decide +kernel
theorem dX6_mixNode_18 : decode cX6_mixNode 18 = .ok (.lload 4, 2) := by decide +kernel
theorem dX6_mixNode_20 : decode cX6_mixNode 20 = .ok (.aload_n 0, 1) := by decide +kernel
theorem dX6_mixNode_21 : decode cX6_mixNode 21 = .ok (.getfield 10, 3) := by decide +kernel
theorem dX6_mixNode_24 : decode cX6_mixNode 24 = .ok (.getfield 27, 3) := by decide +kernel
theorem dX6_mixNode_27 : decode cX6_mixNode 27 = .ok (.iload_n 3, 1) := by decide +kernel
theorem dX6_mixNode_28 : decode cX6_mixNode 28 = .ok (.iload 6, 2) := by decide +kernel
theorem dX6_mixNode_30 : decode cX6_mixNode 30 = .ok (.invokevirtual 131, 3) := by decide +kernel
theorem dX6_mixNode_33 : decode cX6_mixNode 33 = .ok (.i2l, 1) := by decide +kernel
theorem dX6_mixNode_34 : decode cX6_mixNode 34 = .ok (.invokestatic 314, 3) := by decide +kernel
theorem dX6_mixNode_37 : decode cX6_mixNode 37 = .ok (.lstore 4, 2) := by decide +kernel
theorem dX6_mixNode_39 : decode cX6_mixNode 39 = .ok (.iinc 6 1, 3) := by decide +kernel
theorem dX6_mixNode_42 : decode cX6_mixNode 42 = .ok (.goto (-31), 3) := by decide +kernel
theorem dX6_mixNode_45 : decode cX6_mixNode 45 = .ok (.aload_n 0, 1) := by decide +kernel
theorem dX6_mixNode_46 : decode cX6_mixNode 46 = .ok (.getfield 55, 3) := by decide +kernel
theorem dX6_mixNode_49 : decode cX6_mixNode 49 = .ok (.invokevirtual 301, 3) := by decide +kernel
theorem dX6_mixNode_52 : decode cX6_mixNode 52 = .ok (.aload_n 0, 1) := by decide +kernel
theorem dX6_mixNode_53 : decode cX6_mixNode 53 = .ok (.getfield 10, 3) := by decide +kernel
theorem dX6_mixNode_56 : decode cX6_mixNode 56 = .ok (.getfield 27, 3) := by decide +kernel
theorem dX6_mixNode_59 : decode cX6_mixNode 59 = .ok (.iload_n 3, 1) := by decide +kernel
theorem dX6_mixNode_60 : decode cX6_mixNode 60 = .ok (.aload_n 0, 1) := by decide +kernel
theorem dX6_mixNode_61 : decode cX6_mixNode 61 = .ok (.getfield 55, 3) := by decide +kernel
theorem dX6_mixNode_64 : decode cX6_mixNode 64 = .ok (.invokevirtual 356, 3) := by decide +kernel
theorem dX6_mixNode_67 : decode cX6_mixNode 67 = .ok (.lload 4, 2) := by decide +kernel
theorem dX6_mixNode_69 : decode cX6_mixNode 69 = .ok (.aload_n 0, 1) := by decide +kernel
theorem dX6_mixNode_70 : decode cX6_mixNode 70 = .ok (.getfield 55, 3) := by decide +kernel
theorem dX6_mixNode_73 : decode cX6_mixNode 73 = .ok (.invokestatic 330, 3) := by decide +kernel
theorem dX6_mixNode_76 : decode cX6_mixNode 76 = .ok (.lreturn, 1) := by decide +kernel
abbrev rmX6_mixNode : Room := { frames := 65, cells := 0, slots := 0, locals := 1643 }
noncomputable def fX6_mixNode_45 (n : Nat) (Sh : Sp) (a0 : Nat) (a1 : Int64) (a3 : Int32) (M : Mm) (v4 : Int64) : Option (Int64 × Mm) :=
  tF M a0 6 fun b1 =>
  chk (Sh b1 = some (.inl 5)) <|
  (fX5_empty n Sh M b1).bind fun r2 =>
  tF r2 a0 0 fun b3 =>
  gF Sh r2 b3 3 0 fun b4 =>
  tF r2 a0 6 fun b5 =>
  chk (Sh b4 = some (.inl 4)) <|
  (fX4_joinPhrase n Sh r2 b4 a3 b5).bind fun r6 =>
  tF r6 a0 6 fun b7 =>
  (fX6_mixWords n Sh r6 v4 b7).bind fun r8 =>
  some (r8, r6)
noncomputable def fX6_mixNode_11b (n : Nat) (Sh : Sp) (a0 : Nat) (a1 : Int64) (a3 : Int32) (M : Mm) (v4 : Int64) (v6 : Int32) : Option ((Int64 × Int32) ⊕ (Int64 × Mm)) :=
  if v6 < 15 then
    tF M a0 0 fun b9 =>
    gF Sh M b9 3 0 fun b10 =>
    chk (Sh b10 = some (.inl 4)) <|
    (fX4_about n Sh M b10 a3 v6).bind fun r11 =>
    (fX6_mix n Sh M v4 (Int32.toInt64 r11)).bind fun r12 =>
    some (Sum.inl (r12, (v6 + 1)))
  else
    (fX6_mixNode_45 n Sh a0 a1 a3 M v4).map Sum.inr
noncomputable def fX6_mixNode_11 (n : Nat) (Sh : Sp) (a0 : Nat) (a1 : Int64) (a3 : Int32) (M : Mm) (v4 : Int64) (v6 : Int32) : Option (Int64 × Mm) :=
  iter n (fun s => fX6_mixNode_11b n Sh a0 a1 a3 M s.1 s.2) (v4, v6)
noncomputable def fX6_mixNode (n : Nat) (Sh : Sp) (M : Mm) (a0 : Nat) (a1 : Int64) (a3 : Int32) : Option (Int64 × Mm) :=
  (fX6_mix n Sh M a1 (Int32.toInt64 a3)).bind fun r13 =>
  fX6_mixNode_11 n Sh a0 a1 a3 M r13 0
set_option maxRecDepth 100000 in
set_option maxHeartbeats 4000000 in
theorem kX6_mixNode {l : Launch} {G : Gt} {n : Nat} {Sh : Sp} {M : Mm} {a0 : Nat} {a1 : Int64} {a3 : Int32} (hT : Sh a0 = some (.inl 6)) {r : (Int64 × Mm)} (h : fX6_mixNode n Sh M a0 a1 a3 = some r) : Ct l yX6_mixNode cX6_mixNode 7 (some .long) rmX6_mixNode G Sh M [.ref a0, .long a1, .int a3] (some (.long r.1)) r.2 := by
  refine Ct.of (by decide) (Nat.le_of_ble_eq_true rfl) ?_
  intro p e s m args below meth c ls C hK hX hP hS hb hlk hr hl
  replace hl : lv_has ls 7 [(0, .ref a0), (1, .long a1), (3, .int a3)] := hl
  have J45 : ∀ (M : Mm) (v4 : Int64) (H : Heap) (locs : List Loc) (ls : Array Slot), HM G Sh M H → SS G s s.heap.size H locs → lv_has ls 7 [(0, .ref a0), (1, .long a1), (3, .int a3), (4, .long v4)] → fX6_mixNode_45 n Sh a0 a1 a3 M v4 = some r → W p l e rmX6_mixNode s m args below meth c H locs 0 0 (MQ below (QG G Sh r.2 (some (.long r.1))) args s rmX6_mixNode.cells rmX6_mixNode.slots (AA G)) (F0 m 45 ls []) := by
    intro M v4 H locs ls hP hS hl h
    unfold fX6_mixNode_45 at h
    refine lv_aload_n C.1 C.2.1 dX6_mixNode_45 rfl (lv_at hl 0 rfl) ?_
    refine r_tF C hK hP hT cl_6 (k := 6) (by decide) wd_270 rfl dX6_mixNode_46 h (fun b1 h => ?_)
    obtain ⟨hs, h⟩ := chk_some h
    obtain ⟨r2, hc, h⟩ := bS h
    refine r_V0 C hK hX hb hP hS hl.1 (kX5_empty (hs) hc) hs cl_5 wd_617 mo_X5_empty wd_141 wd_142 ⟨Nat.le_of_ble_eq_true rfl, Nat.le_of_ble_eq_true rfl⟩ ⟨Nat.le_of_ble_eq_true rfl, Nat.le_of_ble_eq_true rfl⟩ rfl (rest := []) rfl (Nat.le_of_ble_eq_true rfl) dX6_mixNode_49 (fun H locs hP hS => ?_)
    refine lv_aload_n C.1 C.2.1 dX6_mixNode_52 rfl (lv_at hl 0 rfl) ?_
    refine r_tF C hK hP hT cl_6 (k := 0) (by decide) wd_264 rfl dX6_mixNode_53 h (fun b3 h => ?_)
    refine r_gFN C hK hP cl_3 (k := 0) (by decide) (hX.nw wd_209) rfl dX6_mixNode_56 h (fun b4 h => ?_)
    refine lv_iload_n C.1 C.2.1 dX6_mixNode_59 rfl (lv_at hl 2 rfl) ?_
    refine lv_aload_n C.1 C.2.1 dX6_mixNode_60 rfl (lv_at hl 0 rfl) ?_
    refine r_tF C hK hP hT cl_6 (k := 6) (by decide) wd_270 rfl dX6_mixNode_61 h (fun b5 h => ?_)
    obtain ⟨hs, h⟩ := chk_some h
    obtain ⟨r6, hc, h⟩ := bS h
    refine r_V0 C hK hX hb hP hS hl.1 (kX4_joinPhrase (hs) hc) hs cl_4 wd_640 mo_X4_joinPhrase wd_455 wd_456 ⟨Nat.le_of_ble_eq_true rfl, Nat.le_of_ble_eq_true rfl⟩ ⟨Nat.le_of_ble_eq_true rfl, Nat.le_of_ble_eq_true rfl⟩ rfl (rest := []) rfl (Nat.le_of_ble_eq_true rfl) dX6_mixNode_64 (fun H locs hP hS => ?_)
    refine lv_lload C.1 C.2.1 dX6_mixNode_67 (lv_at hl 3 rfl) ?_
    refine lv_aload_n C.1 C.2.1 dX6_mixNode_69 rfl (lv_at hl 0 rfl) ?_
    refine r_tF C hK hP hT cl_6 (k := 6) (by decide) wd_270 rfl dX6_mixNode_70 h (fun b7 h => ?_)
    obtain ⟨r8, hc, h⟩ := bS h
    refine r_S1 C hK hX hb hP hS hl.1 (kX6_mixWords hc) wd_641 mo_X6_mixWords wd_642 ⟨Nat.le_of_ble_eq_true rfl, Nat.le_of_ble_eq_true rfl⟩ ⟨Nat.le_of_ble_eq_true rfl, Nat.le_of_ble_eq_true rfl⟩ rfl (rest := []) rfl (Nat.le_of_ble_eq_true rfl) dX6_mixNode_73 (fun H locs hP hS => ?_)
    have e := Option.some.inj h
    exact q_l C hlk hP hS hr (by rw [← e]) (by rw [← e]) dX6_mixNode_76
  have J11 : ∀ (M : Mm), ∀ (k : Nat) (v4 : Int64) (v6 : Int32) (H : Heap) (locs : List Loc) (ls : Array Slot), HM G Sh M H → SS G s s.heap.size H locs → lv_has ls 7 [(0, .ref a0), (1, .long a1), (3, .int a3), (4, .long v4), (6, .int v6)] → iter k (fun s => fX6_mixNode_11b n Sh a0 a1 a3 M s.1 s.2) (v4, v6) = some r → W p l e rmX6_mixNode s m args below meth c H locs 0 0 (MQ below (QG G Sh r.2 (some (.long r.1))) args s rmX6_mixNode.cells rmX6_mixNode.slots (AA G)) (F0 m 11 ls []) := by
    intro M k
    induction k with
    | zero => intro v4 v6 H locs ls hP hS hl h; exact (iter_0 h).elim
    | succ k ih1 =>
      intro v4 v6 H locs ls hP hS hl h
      obtain ⟨z1, h, hz1⟩ := iter_some h
      replace h : fX6_mixNode_11b n Sh a0 a1 a3 M v4 v6 = some z1 := h
      unfold fX6_mixNode_11b at h
      refine lv_iload C.1 C.2.1 dX6_mixNode_11 (lv_at hl 4 rfl) ?_
      refine lv_bipush (v := 15) C.1 C.2.1 dX6_mixNode_13 (by decide) ?_
      refine b_ige (tgt := 45) C dX6_mixNode_15 (by decide) h (fun h => ?_) (fun h => ?_)
      · refine lv_lload C.1 C.2.1 dX6_mixNode_18 (lv_at hl 3 rfl) ?_
        refine lv_aload_n C.1 C.2.1 dX6_mixNode_20 rfl (lv_at hl 0 rfl) ?_
        refine r_tF C hK hP hT cl_6 (k := 0) (by decide) wd_264 rfl dX6_mixNode_21 h (fun b9 h => ?_)
        refine r_gFN C hK hP cl_3 (k := 0) (by decide) (hX.nw wd_209) rfl dX6_mixNode_24 h (fun b10 h => ?_)
        refine lv_iload_n C.1 C.2.1 dX6_mixNode_27 rfl (lv_at hl 2 rfl) ?_
        refine lv_iload C.1 C.2.1 dX6_mixNode_28 (lv_at hl 4 rfl) ?_
        obtain ⟨hs, h⟩ := chk_some h
        obtain ⟨r11, hc, h⟩ := bS h
        refine r_V1 C hK hX hb hP hS hl.1 (kX4_about (hs) hc) hs cl_4 wd_632 mo_X4_about wd_633 wd_634 ⟨Nat.le_of_ble_eq_true rfl, Nat.le_of_ble_eq_true rfl⟩ ⟨Nat.le_of_ble_eq_true rfl, Nat.le_of_ble_eq_true rfl⟩ rfl (rest := [.long v4]) rfl (Nat.le_of_ble_eq_true rfl) dX6_mixNode_30 (fun H locs hP hS => ?_)
        refine lv_i2l C.1 C.2.1 dX6_mixNode_33 rfl ?_
        obtain ⟨r12, hc, h⟩ := bS h
        refine r_S1 C hK hX hb hP hS hl.1 (kX6_mix hc) wd_624 mo_X6_mix wd_625 ⟨Nat.le_of_ble_eq_true rfl, Nat.le_of_ble_eq_true rfl⟩ ⟨Nat.le_of_ble_eq_true rfl, Nat.le_of_ble_eq_true rfl⟩ rfl (rest := []) rfl (Nat.le_of_ble_eq_true rfl) dX6_mixNode_34 (fun H locs hP hS => ?_)
        refine lv_lstore (lv' := [(4, .long r12), (0, .ref a0), (1, .long a1), (3, .int a3), (6, .int v6)]) C.1 C.2.1 dX6_mixNode_37 hl (by decide) rfl (fun ls hl => ?_)
        refine lv_iinc (v := (v6 + 1)) (lv' := [(6, .int (v6 + 1)), (4, .long r12), (0, .ref a0), (1, .long a1), (3, .int a3)]) C.1 C.2.1 dX6_mixNode_39 hl (k := 4) rfl rfl (by decide) rfl (fun ls hl => ?_)
        refine lv_goto (tgt := 11) C.1 C.2.1 dX6_mixNode_42 (by decide) ?_
        have e := Option.some.inj h
        rw [← e] at hz1
        exact ih1 (r12) ((v6 + 1)) _ _ _ hP hS (lv_sub hl [2, 3, 4, 1, 0] rfl) (itK_inl hz1)
      · obtain ⟨w1, h, e⟩ := mS h
        rw [← e] at hz1
        replace e := itK_inr hz1
        rw [e] at h
        exact J45 (M) (v4) _ _ _ hP hS (lv_sub hl [0, 1, 2, 3] rfl) h
  unfold fX6_mixNode at h
  refine lv_lload_n C.1 C.2.1 dX6_mixNode_0 rfl (lv_at hl 1 rfl) ?_
  refine lv_iload_n C.1 C.2.1 dX6_mixNode_1 rfl (lv_at hl 2 rfl) ?_
  refine lv_i2l C.1 C.2.1 dX6_mixNode_2 rfl ?_
  obtain ⟨r13, hc, h⟩ := bS h
  refine r_S1 C hK hX hb hP hS hl.1 (kX6_mix hc) wd_624 mo_X6_mix wd_625 ⟨Nat.le_of_ble_eq_true rfl, Nat.le_of_ble_eq_true rfl⟩ ⟨Nat.le_of_ble_eq_true rfl, Nat.le_of_ble_eq_true rfl⟩ rfl (rest := []) rfl (Nat.le_of_ble_eq_true rfl) dX6_mixNode_3 (fun H locs hP hS => ?_)
  refine lv_lstore (lv' := [(4, .long r13), (0, .ref a0), (1, .long a1), (3, .int a3)]) C.1 C.2.1 dX6_mixNode_6 hl (by decide) rfl (fun ls hl => ?_)
  refine lv_iconst (v := 0) C.1 C.2.1 dX6_mixNode_8 (by decide) ?_
  refine lv_istore (lv' := [(6, .int 0), (4, .long r13), (0, .ref a0), (1, .long a1), (3, .int a3)]) C.1 C.2.1 dX6_mixNode_9 hl (by decide) rfl (fun ls hl => ?_)
  exact J11 (M) n (r13) (0) _ _ _ hP hS (lv_sub hl [2, 3, 4, 1, 0] rfl) h
