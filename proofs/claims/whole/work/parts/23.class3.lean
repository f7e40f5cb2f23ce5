theorem dX0_belongs_0 : decode cX0_belongs 0 = .ok (.iload_n 1, 1) := by decide +kernel
theorem dX0_belongs_1 : decode cX0_belongs 1 = .ok (.ifCond .eq 17, 3) := by decide +kernel
theorem dX0_belongs_4 : decode cX0_belongs 4 = .ok (.iload_n 0, 1) := by decide +kernel
theorem dX0_belongs_5 : decode cX0_belongs 5 = .ok (.bipush 8, 2) := by decide +kernel
theorem dX0_belongs_7 : decode cX0_belongs 7 = .ok (.if_icmp .ne 7, 3) := by decide +kernel
theorem dX0_belongs_10 : decode cX0_belongs 10 = .ok (.iconst 1, 1) := by decide +kernel
theorem dX0_belongs_11 : decode cX0_belongs 11 = .ok (.goto 24, 3) := by decide +kernel
theorem dX0_belongs_14 : decode cX0_belongs 14 = .ok (.iconst 0, 1) := by decide +kernel
theorem dX0_belongs_15 : decode cX0_belongs 15 = .ok (.goto 20, 3) := by decide +kernel
theorem dX0_belongs_18 : decode cX0_belongs 18 = .ok (.iload_n 0, 1) := by decide +kernel
theorem dX0_belongs_19 : decode cX0_belongs 19 = .ok (.bipush 9, 2) := by decide +kernel
theorem dX0_belongs_21 : decode cX0_belongs 21 = .ok (.if_icmp .eq 9, 3) := by decide +kernel
theorem dX0_belongs_24 : decode cX0_belongs 24 = .ok (.iload_n 0, 1) := by decide +kernel
theorem dX0_belongs_25 : decode cX0_belongs 25 = .ok (.bipush 10, 2) := by decide +kernel
theorem dX0_belongs_27 : decode cX0_belongs 27 = .ok (.if_icmp .ne 7, 3) := by decide +kernel
theorem dX0_belongs_30 : decode cX0_belongs 30 = .ok (.iconst 1, 1) := by decide +kernel
theorem dX0_belongs_31 : decode cX0_belongs 31 = .ok (.goto 4, 3) := by decide +kernel
theorem dX0_belongs_34 : decode cX0_belongs 34 = .ok (.iconst 0, 1) := by decide +kernel
theorem dX0_belongs_35 : decode cX0_belongs 35 = .ok (.ireturn, 1) := by decide +kernel
abbrev rmX0_belongs : Room := { frames := 1, cells := 0, slots := 0, locals := 40 }
noncomputable def fX0_belongs_30 (n : Nat) (Sh : Sp) (M : Mm) (a0 : Int32) (a1 : Int32) : Option Int32 :=
  some 1
noncomputable def fX0_belongs (n : Nat) (Sh : Sp) (M : Mm) (a0 : Int32) (a1 : Int32) : Option Int32 :=
  if a1 = 0 then
    if a0 = 9 then
      fX0_belongs_30 n Sh M a0 a1
    else
      if a0 = 10 then
        fX0_belongs_30 n Sh M a0 a1
      else
        some 0
  else
    if a0 = 8 then
      some 1
    else
      some 0
set_option maxRecDepth 100000 in
set_option maxHeartbeats 4000000 in
theorem kX0_belongs {l : Launch} {G : Gt} {n : Nat} {Sh : Sp} {M : Mm} {a0 : Int32} {a1 : Int32} {r : Int32} (h : fX0_belongs n Sh M a0 a1 = some r) : Ct l yX0_belongs cX0_belongs 2 (some .boolean) rmX0_belongs G Sh M [.int a0, .int a1] (some (.int r)) M := by
  refine Ct.of (by decide) (Nat.le_of_ble_eq_true rfl) ?_
  intro p e s m args below meth c ls C hK hX hP hS hb hlk hr hl
  replace hl : lv_has ls 2 [(0, .int a0), (1, .int a1)] := hl
  have J30 : ∀ (H : Heap) (locs : List Loc) (ls : Array Slot), HM G Sh M H → SS G s s.heap.size H locs → lv_has ls 2 [(0, .int a0), (1, .int a1)] → fX0_belongs_30 n Sh M a0 a1 = some r → W p l e rmX0_belongs s m args below meth c H locs 0 0 (MQ below (QG G Sh M (some (.int r))) args s rmX0_belongs.cells rmX0_belongs.slots (AA G)) (F0 m 30 ls []) := by
    intro  H locs ls hP hS hl h
    unfold fX0_belongs_30 at h
    refine lv_iconst (v := 1) C.1 C.2.1 dX0_belongs_30 (by decide) ?_
    refine lv_goto (tgt := 35) C.1 C.2.1 dX0_belongs_31 (by decide) ?_
    have e := Option.some.inj h
    exact q_z C hlk hP hS hr (by decide) (by rw [← e]) rfl dX0_belongs_35
  unfold fX0_belongs at h
  refine lv_iload_n C.1 C.2.1 dX0_belongs_0 rfl (lv_at hl 1 rfl) ?_
  refine b_eq (tgt := 18) C dX0_belongs_1 (by decide) h (fun h => ?_) (fun h => ?_)
  · refine lv_iload_n C.1 C.2.1 dX0_belongs_18 rfl (lv_at hl 0 rfl) ?_
    refine lv_bipush (v := 9) C.1 C.2.1 dX0_belongs_19 (by decide) ?_
    refine b_ieq (tgt := 30) C dX0_belongs_21 (by decide) h (fun h => ?_) (fun h => ?_)
    · exact J30  _ _ _ hP hS (lv_sub hl [0, 1] rfl) h
    · refine lv_iload_n C.1 C.2.1 dX0_belongs_24 rfl (lv_at hl 0 rfl) ?_
      refine lv_bipush (v := 10) C.1 C.2.1 dX0_belongs_25 (by decide) ?_
      refine b_ine (tgt := 34) C dX0_belongs_27 (by decide) h (fun h => ?_) (fun h => ?_)
      · exact J30  _ _ _ hP hS (lv_sub hl [0, 1] rfl) h
      · refine lv_iconst (v := 0) C.1 C.2.1 dX0_belongs_34 (by decide) ?_
        have e := Option.some.inj h
        exact q_z C hlk hP hS hr (by decide) (by rw [← e]) rfl dX0_belongs_35
  · refine lv_iload_n C.1 C.2.1 dX0_belongs_4 rfl (lv_at hl 0 rfl) ?_
    refine lv_bipush (v := 8) C.1 C.2.1 dX0_belongs_5 (by decide) ?_
    refine b_ine (tgt := 14) C dX0_belongs_7 (by decide) h (fun h => ?_) (fun h => ?_)
    · refine lv_iconst (v := 1) C.1 C.2.1 dX0_belongs_10 (by decide) ?_
      refine lv_goto (tgt := 35) C.1 C.2.1 dX0_belongs_11 (by decide) ?_
      have e := Option.some.inj h
      exact q_z C hlk hP hS hr (by decide) (by rw [← e]) rfl dX0_belongs_35
    · refine lv_iconst (v := 0) C.1 C.2.1 dX0_belongs_14 (by decide) ?_
      refine lv_goto (tgt := 35) C.1 C.2.1 dX0_belongs_15 (by decide) ?_
      have e := Option.some.inj h
      exact q_z C hlk hP hS hr (by decide) (by rw [← e]) rfl dX0_belongs_35
theorem dX0_isCell_0 : decode cX0_isCell 0 = .ok (.aload_n 0, 1) := by decide +kernel
theorem dX0_isCell_1 : decode cX0_isCell 1 = .ok (.getfield 9, 3) := by decide +kernel
theorem dX0_isCell_4 : decode cX0_isCell 4 = .ok (.iload_n 1, 1) := by decide +kernel
theorem dX0_isCell_5 : decode cX0_isCell 5 = .ok (.invokevirtual 15, 3) := by decide +kernel
theorem dX0_isCell_8 : decode cX0_isCell 8 = .ok (.istore_n 2, 1) := by decide +kernel
theorem dX0_isCell_9 : decode cX0_isCell 9 = .ok (.aload_n 0, 1) := by decide +kernel
theorem dX0_isCell_10 : decode cX0_isCell 10 = .ok (.getfield 9, 3) := by decide +kernel
theorem dX0_isCell_13 : decode cX0_isCell 13 = .ok (.iload_n 1, 1) := by decide +kernel
theorem dX0_isCell_14 : decode cX0_isCell 14 = .ok (.invokevirtual 21, 3) := by decide +kernel
theorem dX0_isCell_17 : decode cX0_isCell 17 = .ok (.iconst 0, 1) := by decide +kernel
theorem dX0_isCell_18 : decode cX0_isCell 18 = .ok (.invokestatic 24, 3) := by decide +kernel
theorem dX0_isCell_21 : decode cX0_isCell 21 = .ok (.ifCond .eq 40, 3) := by decide +kernel
theorem dX0_isCell_24 : decode cX0_isCell 24 = .ok (.aload_n 0, 1) := by decide +kernel
theorem dX0_isCell_25 : decode cX0_isCell 25 = .ok (.getfield 9, 3) := by decide +kernel
theorem dX0_isCell_28 : decode cX0_isCell 28 = .ok (.iload_n 2, 1) := by decide +kernel
theorem dX0_isCell_29 : decode cX0_isCell 29 = .ok (.invokevirtual 21, 3) := by decide +kernel
theorem dX0_isCell_32 : decode cX0_isCell 32 = .ok (.bipush 8, 2) := by decide +kernel
theorem dX0_isCell_34 : decode cX0_isCell 34 = .ok (.if_icmp .ne 27, 3) := by decide +kernel
theorem dX0_isCell_37 : decode cX0_isCell 37 = .ok (.aload_n 0, 1) := by decide +kernel
theorem dX0_isCell_38 : decode cX0_isCell 38 = .ok (.getfield 9, 3) := by decide +kernel
theorem dX0_isCell_41 : decode cX0_isCell 41 = .ok (.aload_n 0, 1) := by decide +kernel
theorem dX0_isCell_42 : decode cX0_isCell 42 = .ok (.getfield 9, 3) := by decide +kernel
theorem dX0_isCell_45 : decode cX0_isCell 45 = .ok (.iload_n 2, 1) := by decide +kernel
theorem dX0_isCell_46 : decode cX0_isCell 46 = .ok (.invokevirtual 15, 3) := by decide +kernel
theorem dX0_isCell_49 : decode cX0_isCell 49 = .ok (.invokevirtual 21, 3) := by decide +kernel
theorem dX0_isCell_52 : decode cX0_isCell 52 = .ok (.bipush 7, 2) := by decide +kernel
theorem dX0_isCell_54 : decode cX0_isCell 54 = .ok (.if_icmp .ne 7, 3) := by decide +kernel
theorem dX0_isCell_57 : decode cX0_isCell 57 = .ok (.iconst 1, 1) := by decide +kernel
theorem dX0_isCell_58 : decode cX0_isCell 58 = .ok (.goto 4, 3) := by decide +kernel
theorem dX0_isCell_61 : decode cX0_isCell 61 = .ok (.iconst 0, 1) := by decide +kernel
theorem dX0_isCell_62 : decode cX0_isCell 62 = .ok (.ireturn, 1) := by decide +kernel
abbrev rmX0_isCell : Room := { frames := 2, cells := 0, slots := 0, locals := 61 }
noncomputable def fX0_isCell (n : Nat) (Sh : Sp) (M : Mm) (a0 : Nat) (a1 : Int32) : Option Int32 :=
  tF M a0 0 fun b1 =>
  chk (Sh b1 = some (.inl 4)) <|
  (fX4_parentOf n Sh M b1 a1).bind fun r2 =>
  tF M a0 0 fun b3 =>
  chk (Sh b3 = some (.inl 4)) <|
  (fX4_roleOf n Sh M b3 a1).bind fun r4 =>
  (fX0_belongs n Sh M r4 0).bind fun r5 =>
  if r5 = 0 then
    some 0
  else
    tF M a0 0 fun b6 =>
    chk (Sh b6 = some (.inl 4)) <|
    (fX4_roleOf n Sh M b6 r2).bind fun r7 =>
    if r7 = 8 then
      tF M a0 0 fun b8 =>
      tF M a0 0 fun b9 =>
      chk (Sh b9 = some (.inl 4)) <|
      (fX4_parentOf n Sh M b9 r2).bind fun r10 =>
      chk (Sh b8 = some (.inl 4)) <|
      (fX4_roleOf n Sh M b8 r10).bind fun r11 =>
      if r11 = 7 then
        some 1
      else
        some 0
    else
      some 0
set_option maxRecDepth 100000 in
set_option maxHeartbeats 4000000 in
theorem kX0_isCell {l : Launch} {G : Gt} {n : Nat} {Sh : Sp} {M : Mm} {a0 : Nat} {a1 : Int32} (hT : Sh a0 = some (.inl 0)) {r : Int32} (h : fX0_isCell n Sh M a0 a1 = some r) : Ct l yX0_isCell cX0_isCell 3 (some .boolean) rmX0_isCell G Sh M [.ref a0, .int a1] (some (.int r)) M := by
  refine Ct.of (by decide) (Nat.le_of_ble_eq_true rfl) ?_
  intro p e s m args below meth c ls C hK hX hP hS hb hlk hr hl
  replace hl : lv_has ls 3 [(0, .ref a0), (1, .int a1)] := hl
  unfold fX0_isCell at h
  refine lv_aload_n C.1 C.2.1 dX0_isCell_0 rfl (lv_at hl 0 rfl) ?_
  refine r_tF C hK hP hT cl_0 (k := 0) (by decide) wd_257 rfl dX0_isCell_1 h (fun b1 h => ?_)
  refine lv_iload_n C.1 C.2.1 dX0_isCell_4 rfl (lv_at hl 1 rfl) ?_
  obtain ⟨hs, h⟩ := chk_some h
  obtain ⟨r2, hc, h⟩ := bS h
  refine r_V1 C hK hX hb hP hS hl.1 (kX4_parentOf (hs) hc) hs cl_4 wd_1034 mo_X4_parentOf wd_306 wd_307 ⟨Nat.le_of_ble_eq_true rfl, Nat.le_of_ble_eq_true rfl⟩ ⟨Nat.le_of_ble_eq_true rfl, Nat.le_of_ble_eq_true rfl⟩ rfl (rest := []) rfl (Nat.le_of_ble_eq_true rfl) dX0_isCell_5 (fun H locs hP hS => ?_)
  refine lv_istore_n (lv' := [(2, .int r2), (0, .ref a0), (1, .int a1)]) C.1 C.2.1 dX0_isCell_8 rfl hl (by decide) rfl (fun ls hl => ?_)
  refine lv_aload_n C.1 C.2.1 dX0_isCell_9 rfl (lv_at hl 1 rfl) ?_
  refine r_tF C hK hP hT cl_0 (k := 0) (by decide) wd_257 rfl dX0_isCell_10 h (fun b3 h => ?_)
  refine lv_iload_n C.1 C.2.1 dX0_isCell_13 rfl (lv_at hl 2 rfl) ?_
  obtain ⟨hs, h⟩ := chk_some h
  obtain ⟨r4, hc, h⟩ := bS h
  refine r_V1 C hK hX hb hP hS hl.1 (kX4_roleOf (hs) hc) hs cl_4 wd_1035 mo_X4_roleOf wd_359 wd_360 ⟨Nat.le_of_ble_eq_true rfl, Nat.le_of_ble_eq_true rfl⟩ ⟨Nat.le_of_ble_eq_true rfl, Nat.le_of_ble_eq_true rfl⟩ rfl (rest := []) rfl (Nat.le_of_ble_eq_true rfl) dX0_isCell_14 (fun H locs hP hS => ?_)
  refine lv_iconst (v := 0) C.1 C.2.1 dX0_isCell_17 (by decide) ?_
  obtain ⟨r5, hc, h⟩ := bS h
  refine r_S1 C hK hX hb hP hS hl.1 (kX0_belongs hc) wd_1036 mo_X0_belongs wd_1037 ⟨Nat.le_of_ble_eq_true rfl, Nat.le_of_ble_eq_true rfl⟩ ⟨Nat.le_of_ble_eq_true rfl, Nat.le_of_ble_eq_true rfl⟩ rfl (rest := []) rfl (Nat.le_of_ble_eq_true rfl) dX0_isCell_18 (fun H locs hP hS => ?_)
  refine b_eq (tgt := 61) C dX0_isCell_21 (by decide) h (fun h => ?_) (fun h => ?_)
  · refine lv_iconst (v := 0) C.1 C.2.1 dX0_isCell_61 (by decide) ?_
    have e := Option.some.inj h
    exact q_z C hlk hP hS hr (by decide) (by rw [← e]) rfl dX0_isCell_62
  · refine lv_aload_n C.1 C.2.1 dX0_isCell_24 rfl (lv_at hl 1 rfl) ?_
    refine r_tF C hK hP hT cl_0 (k := 0) (by decide) wd_257 rfl dX0_isCell_25 h (fun b6 h => ?_)
    refine lv_iload_n C.1 C.2.1 dX0_isCell_28 rfl (lv_at hl 0 rfl) ?_
    obtain ⟨hs, h⟩ := chk_some h
    obtain ⟨r7, hc, h⟩ := bS h
    refine r_V1 C hK hX hb hP hS hl.1 (kX4_roleOf (hs) hc) hs cl_4 wd_1035 mo_X4_roleOf wd_359 wd_360 ⟨Nat.le_of_ble_eq_true rfl, Nat.le_of_ble_eq_true rfl⟩ ⟨Nat.le_of_ble_eq_true rfl, Nat.le_of_ble_eq_true rfl⟩ rfl (rest := []) rfl (Nat.le_of_ble_eq_true rfl) dX0_isCell_29 (fun H locs hP hS => ?_)
    refine lv_bipush (v := 8) C.1 C.2.1 dX0_isCell_32 (by decide) ?_
    refine b_ine (tgt := 61) C dX0_isCell_34 (by decide) h (fun h => ?_) (fun h => ?_)
    · refine lv_aload_n C.1 C.2.1 dX0_isCell_37 rfl (lv_at hl 1 rfl) ?_
      refine r_tF C hK hP hT cl_0 (k := 0) (by decide) wd_257 rfl dX0_isCell_38 h (fun b8 h => ?_)
      refine lv_aload_n C.1 C.2.1 dX0_isCell_41 rfl (lv_at hl 1 rfl) ?_
      refine r_tF C hK hP hT cl_0 (k := 0) (by decide) wd_257 rfl dX0_isCell_42 h (fun b9 h => ?_)
      refine lv_iload_n C.1 C.2.1 dX0_isCell_45 rfl (lv_at hl 0 rfl) ?_
      obtain ⟨hs, h⟩ := chk_some h
      obtain ⟨r10, hc, h⟩ := bS h
      refine r_V1 C hK hX hb hP hS hl.1 (kX4_parentOf (hs) hc) hs cl_4 wd_1034 mo_X4_parentOf wd_306 wd_307 ⟨Nat.le_of_ble_eq_true rfl, Nat.le_of_ble_eq_true rfl⟩ ⟨Nat.le_of_ble_eq_true rfl, Nat.le_of_ble_eq_true rfl⟩ rfl (rest := [.ref b8]) rfl (Nat.le_of_ble_eq_true rfl) dX0_isCell_46 (fun H locs hP hS => ?_)
      obtain ⟨hs, h⟩ := chk_some h
      obtain ⟨r11, hc, h⟩ := bS h
      refine r_V1 C hK hX hb hP hS hl.1 (kX4_roleOf (hs) hc) hs cl_4 wd_1035 mo_X4_roleOf wd_359 wd_360 ⟨Nat.le_of_ble_eq_true rfl, Nat.le_of_ble_eq_true rfl⟩ ⟨Nat.le_of_ble_eq_true rfl, Nat.le_of_ble_eq_true rfl⟩ rfl (rest := []) rfl (Nat.le_of_ble_eq_true rfl) dX0_isCell_49 (fun H locs hP hS => ?_)
      refine lv_bipush (v := 7) C.1 C.2.1 dX0_isCell_52 (by decide) ?_
      refine b_ine (tgt := 61) C dX0_isCell_54 (by decide) h (fun h => ?_) (fun h => ?_)
      · refine lv_iconst (v := 1) C.1 C.2.1 dX0_isCell_57 (by decide) ?_
        refine lv_goto (tgt := 62) C.1 C.2.1 dX0_isCell_58 (by decide) ?_
        have e := Option.some.inj h
        exact q_z C hlk hP hS hr (by decide) (by rw [← e]) rfl dX0_isCell_62
      · refine lv_iconst (v := 0) C.1 C.2.1 dX0_isCell_61 (by decide) ?_
        have e := Option.some.inj h
        exact q_z C hlk hP hS hr (by decide) (by rw [← e]) rfl dX0_isCell_62
    · refine lv_iconst (v := 0) C.1 C.2.1 dX0_isCell_61 (by decide) ?_
      have e := Option.some.inj h
      exact q_z C hlk hP hS hr (by decide) (by rw [← e]) rfl dX0_isCell_62
theorem dX0_numberOf_0 : decode cX0_numberOf 0 = .ok (.aload_n 0, 1) := by decide +kernel
theorem dX0_numberOf_1 : decode cX0_numberOf 1 = .ok (.getfield 9, 3) := by decide +kernel
theorem dX0_numberOf_4 : decode cX0_numberOf 4 = .ok (.iload_n 1, 1) := by decide +kernel
theorem dX0_numberOf_5 : decode cX0_numberOf 5 = .ok (.invokevirtual 15, 3) := by decide +kernel
theorem dX0_numberOf_8 : decode cX0_numberOf 8 = .ok (.istore_n 3, 1) := by decide +kernel
theorem dX0_numberOf_9 : decode cX0_numberOf 9 = .ok (.iconst 0, 1) := by decide +kernel
theorem dX0_numberOf_10 : decode cX0_numberOf 10 = .ok (.istore 4, 2) := by decide +kernel
theorem dX0_numberOf_12 : decode cX0_numberOf 12 = .ok (.iconst 0, 1) := by decide +kernel
theorem dX0_numberOf_13 : decode cX0_numberOf 13 = .ok (.istore 5, 2) := by decide +kernel
theorem dX0_numberOf_15 : decode cX0_numberOf 15 = .ok (.iload 5, 2) := by decide +kernel
theorem dX0_numberOf_17 : decode cX0_numberOf 17 = .ok (.aload_n 0, 1) := by decide +kernel
theorem dX0_numberOf_18 : decode cX0_numberOf 18 = .ok (.getfield 9, 3) := by decide +kernel
theorem dX0_numberOf_21 : decode cX0_numberOf 21 = .ok (.iload_n 3, 1) := by decide +kernel
theorem dX0_numberOf_22 : decode cX0_numberOf 22 = .ok (.invokevirtual 63, 3) := by decide +kernel
theorem dX0_numberOf_25 : decode cX0_numberOf 25 = .ok (.if_icmp .ge 50, 3) := by decide +kernel
theorem dX0_numberOf_28 : decode cX0_numberOf 28 = .ok (.aload_n 0, 1) := by decide +kernel
theorem dX0_numberOf_29 : decode cX0_numberOf 29 = .ok (.getfield 9, 3) := by decide +kernel
theorem dX0_numberOf_32 : decode cX0_numberOf 32 = .ok (.iload_n 3, 1) := by decide +kernel
theorem dX0_numberOf_33 : decode cX0_numberOf 33 = .ok (.iload 5, 2) := by decide +kernel
theorem dX0_numberOf_35 : decode cX0_numberOf 35 = .ok (.invokevirtual 59, 3) := by decide +kernel
theorem dX0_numberOf_38 : decode cX0_numberOf 38 = .ok (.iload_n 1, 1) := by decide +kernel
theorem dX0_numberOf_39 : decode cX0_numberOf 39 = .ok (.if_icmp .eq 36, 3) := by decide +kernel
theorem dX0_numberOf_42 : decode cX0_numberOf 42 = .ok (.aload_n 0, 1) := by decide +kernel
theorem dX0_numberOf_43 : decode cX0_numberOf 43 = .ok (.getfield 9, 3) := by decide +kernel
theorem dX0_numberOf_46 : decode cX0_numberOf 46 = .ok (.aload_n 0, 1) := by decide +kernel
theorem dX0_numberOf_47 : decode cX0_numberOf 47 = .ok (.getfield 9, 3) := by decide +kernel
theorem dX0_numberOf_50 : decode cX0_numberOf 50 = .ok (.iload_n 3, 1) := by decide +kernel
theorem dX0_numberOf_51 : decode cX0_numberOf 51 = .ok (.iload 5, 2) := by decide +kernel
theorem dX0_numberOf_53 : decode cX0_numberOf 53 = .ok (.invokevirtual 59, 3) := by decide +kernel
theorem dX0_numberOf_56 : decode cX0_numberOf 56 = .ok (.invokevirtual 21, 3) := by decide +kernel
theorem dX0_numberOf_59 : decode cX0_numberOf 59 = .ok (.iload_n 2, 1) := by decide +kernel
theorem dX0_numberOf_60 : decode cX0_numberOf 60 = .ok (.invokestatic 24, 3) := by decide +kernel
theorem dX0_numberOf_63 : decode cX0_numberOf 63 = .ok (.ifCond .eq 6, 3) := by decide +kernel
theorem dX0_numberOf_66 : decode cX0_numberOf 66 = .ok (.iinc 4 1, 3) := by decide +kernel
theorem dX0_numberOf_69 : decode cX0_numberOf 69 = .ok (.iinc 5 1, 3) := by decide +kernel
theorem dX0_numberOf_72 : decode cX0_numberOf 72 = .ok (.goto (-57), 3) := by decide +kernel
theorem dX0_numberOf_75 : decode cX0_numberOf 75 = .ok (.iload 4, 2) := by decide +kernel
theorem dX0_numberOf_77 : decode cX0_numberOf 77 = .ok (.ireturn, 1) := by decide +kernel
abbrev rmX0_numberOf : Room := { frames := 2, cells := 0, slots := 0, locals := 62 }
noncomputable def fX0_numberOf_69 (n : Nat) (Sh : Sp) (M : Mm) (a0 : Nat) (a1 : Int32) (a2 : Int32) (v3 : Int32) (v4 : Int32) (v5 : Int32) : Option ((Int32 × Int32) ⊕ Int32) :=
  some (Sum.inl (v4, (v5 + 1)))
noncomputable def fX0_numberOf_15b (n : Nat) (Sh : Sp) (M : Mm) (a0 : Nat) (a1 : Int32) (a2 : Int32) (v3 : Int32) (v4 : Int32) (v5 : Int32) : Option ((Int32 × Int32) ⊕ Int32) :=
  tF M a0 0 fun b1 =>
  chk (Sh b1 = some (.inl 4)) <|
  (fX4_kidCount n Sh M b1 v3).bind fun r2 =>
  if v5 < r2 then
    tF M a0 0 fun b3 =>
    chk (Sh b3 = some (.inl 4)) <|
    (fX4_kidAt n Sh M b3 v3 v5).bind fun r4 =>
    if r4 = a1 then
      some (Sum.inr v4)
    else
      tF M a0 0 fun b5 =>
      tF M a0 0 fun b6 =>
      chk (Sh b6 = some (.inl 4)) <|
      (fX4_kidAt n Sh M b6 v3 v5).bind fun r7 =>
      chk (Sh b5 = some (.inl 4)) <|
      (fX4_roleOf n Sh M b5 r7).bind fun r8 =>
      (fX0_belongs n Sh M r8 a2).bind fun r9 =>
      if r9 = 0 then
        fX0_numberOf_69 n Sh M a0 a1 a2 v3 v4 v5
      else
        fX0_numberOf_69 n Sh M a0 a1 a2 v3 (v4 + 1) v5
  else
    some (Sum.inr v4)
noncomputable def fX0_numberOf_15 (n : Nat) (Sh : Sp) (M : Mm) (a0 : Nat) (a1 : Int32) (a2 : Int32) (v3 : Int32) (v4 : Int32) (v5 : Int32) : Option Int32 :=
  iter n (fun s => fX0_numberOf_15b n Sh M a0 a1 a2 v3 s.1 s.2) (v4, v5)
noncomputable def fX0_numberOf (n : Nat) (Sh : Sp) (M : Mm) (a0 : Nat) (a1 : Int32) (a2 : Int32) : Option Int32 :=
  tF M a0 0 fun b10 =>
  chk (Sh b10 = some (.inl 4)) <|
  (fX4_parentOf n Sh M b10 a1).bind fun r11 =>
  fX0_numberOf_15 n Sh M a0 a1 a2 r11 0 0
set_option maxRecDepth 100000 in
set_option maxHeartbeats 4000000 in
theorem kX0_numberOf {l : Launch} {G : Gt} {n : Nat} {Sh : Sp} {M : Mm} {a0 : Nat} {a1 : Int32} {a2 : Int32} (hT : Sh a0 = some (.inl 0)) {r : Int32} (h : fX0_numberOf n Sh M a0 a1 a2 = some r) : Ct l yX0_numberOf cX0_numberOf 6 (some .int) rmX0_numberOf G Sh M [.ref a0, .int a1, .int a2] (some (.int r)) M := by
  refine Ct.of (by decide) (Nat.le_of_ble_eq_true rfl) ?_
  intro p e s m args below meth c ls C hK hX hP hS hb hlk hr hl
  replace hl : lv_has ls 6 [(0, .ref a0), (1, .int a1), (2, .int a2)] := hl
  have J15 : ∀ (v3 : Int32), ∀ (k : Nat) (v4 : Int32) (v5 : Int32) (H : Heap) (locs : List Loc) (ls : Array Slot), HM G Sh M H → SS G s s.heap.size H locs → lv_has ls 6 [(0, .ref a0), (1, .int a1), (2, .int a2), (3, .int v3), (4, .int v4), (5, .int v5)] → iter k (fun s => fX0_numberOf_15b n Sh M a0 a1 a2 v3 s.1 s.2) (v4, v5) = some r → W p l e rmX0_numberOf s m args below meth c H locs 0 0 (MQ below (QG G Sh M (some (.int r))) args s rmX0_numberOf.cells rmX0_numberOf.slots (AA G)) (F0 m 15 ls []) := by
    intro v3 k
    induction k with
    | zero => intro v4 v5 H locs ls hP hS hl h; exact (iter_0 h).elim
    | succ k ih1 =>
      intro v4 v5 H locs ls hP hS hl h
      obtain ⟨z1, h, hz1⟩ := iter_some h
      replace h : fX0_numberOf_15b n Sh M a0 a1 a2 v3 v4 v5 = some z1 := h
      have J69 : ∀ (v4 : Int32) (v5 : Int32) (H : Heap) (locs : List Loc) (ls : Array Slot), HM G Sh M H → SS G s s.heap.size H locs → lv_has ls 6 [(0, .ref a0), (1, .int a1), (2, .int a2), (3, .int v3), (4, .int v4), (5, .int v5)] → fX0_numberOf_69 n Sh M a0 a1 a2 v3 v4 v5 = some z1 → W p l e rmX0_numberOf s m args below meth c H locs 0 0 (MQ below (QG G Sh M (some (.int r))) args s rmX0_numberOf.cells rmX0_numberOf.slots (AA G)) (F0 m 69 ls []) := by
        intro v4 v5 H locs ls hP hS hl h
        unfold fX0_numberOf_69 at h
        refine lv_iinc (v := (v5 + 1)) (lv' := [(5, .int (v5 + 1)), (0, .ref a0), (1, .int a1), (2, .int a2), (3, .int v3), (4, .int v4)]) C.1 C.2.1 dX0_numberOf_69 hl (k := 5) rfl rfl (by decide) rfl (fun ls hl => ?_)
        refine lv_goto (tgt := 15) C.1 C.2.1 dX0_numberOf_72 (by decide) ?_
        have e := Option.some.inj h
        rw [← e] at hz1
        exact ih1 (v4) ((v5 + 1)) _ _ _ hP hS (lv_sub hl [1, 2, 3, 4, 5, 0] rfl) (itK_inl hz1)
      unfold fX0_numberOf_15b at h
      refine lv_iload C.1 C.2.1 dX0_numberOf_15 (lv_at hl 5 rfl) ?_
      refine lv_aload_n C.1 C.2.1 dX0_numberOf_17 rfl (lv_at hl 0 rfl) ?_
      refine r_tF C hK hP hT cl_0 (k := 0) (by decide) wd_257 rfl dX0_numberOf_18 h (fun b1 h => ?_)
      refine lv_iload_n C.1 C.2.1 dX0_numberOf_21 rfl (lv_at hl 3 rfl) ?_
      obtain ⟨hs, h⟩ := chk_some h
      obtain ⟨r2, hc, h⟩ := bS h
      refine r_V1 C hK hX hb hP hS hl.1 (kX4_kidCount (hs) hc) hs cl_4 wd_1047 mo_X4_kidCount wd_322 wd_323 ⟨Nat.le_of_ble_eq_true rfl, Nat.le_of_ble_eq_true rfl⟩ ⟨Nat.le_of_ble_eq_true rfl, Nat.le_of_ble_eq_true rfl⟩ rfl (rest := [.int v5]) rfl (Nat.le_of_ble_eq_true rfl) dX0_numberOf_22 (fun H locs hP hS => ?_)
      refine b_ige (tgt := 75) C dX0_numberOf_25 (by decide) h (fun h => ?_) (fun h => ?_)
      · refine lv_aload_n C.1 C.2.1 dX0_numberOf_28 rfl (lv_at hl 0 rfl) ?_
        refine r_tF C hK hP hT cl_0 (k := 0) (by decide) wd_257 rfl dX0_numberOf_29 h (fun b3 h => ?_)
        refine lv_iload_n C.1 C.2.1 dX0_numberOf_32 rfl (lv_at hl 3 rfl) ?_
        refine lv_iload C.1 C.2.1 dX0_numberOf_33 (lv_at hl 5 rfl) ?_
        obtain ⟨hs, h⟩ := chk_some h
        obtain ⟨r4, hc, h⟩ := bS h
        refine r_V1 C hK hX hb hP hS hl.1 (kX4_kidAt (hs) hc) hs cl_4 wd_1048 mo_X4_kidAt wd_326 wd_327 ⟨Nat.le_of_ble_eq_true rfl, Nat.le_of_ble_eq_true rfl⟩ ⟨Nat.le_of_ble_eq_true rfl, Nat.le_of_ble_eq_true rfl⟩ rfl (rest := []) rfl (Nat.le_of_ble_eq_true rfl) dX0_numberOf_35 (fun H locs hP hS => ?_)
        refine lv_iload_n C.1 C.2.1 dX0_numberOf_38 rfl (lv_at hl 1 rfl) ?_
        refine b_ieq (tgt := 75) C dX0_numberOf_39 (by decide) h (fun h => ?_) (fun h => ?_)
        · refine lv_iload C.1 C.2.1 dX0_numberOf_75 (lv_at hl 4 rfl) ?_
          have e := Option.some.inj h
          rw [← e] at hz1
          replace e := itK_inr hz1
          exact q_i C hlk hP hS hr (by rw [← e]) rfl dX0_numberOf_77
        · refine lv_aload_n C.1 C.2.1 dX0_numberOf_42 rfl (lv_at hl 0 rfl) ?_
          refine r_tF C hK hP hT cl_0 (k := 0) (by decide) wd_257 rfl dX0_numberOf_43 h (fun b5 h => ?_)
          refine lv_aload_n C.1 C.2.1 dX0_numberOf_46 rfl (lv_at hl 0 rfl) ?_
          refine r_tF C hK hP hT cl_0 (k := 0) (by decide) wd_257 rfl dX0_numberOf_47 h (fun b6 h => ?_)
          refine lv_iload_n C.1 C.2.1 dX0_numberOf_50 rfl (lv_at hl 3 rfl) ?_
          refine lv_iload C.1 C.2.1 dX0_numberOf_51 (lv_at hl 5 rfl) ?_
          obtain ⟨hs, h⟩ := chk_some h
          obtain ⟨r7, hc, h⟩ := bS h
          refine r_V1 C hK hX hb hP hS hl.1 (kX4_kidAt (hs) hc) hs cl_4 wd_1048 mo_X4_kidAt wd_326 wd_327 ⟨Nat.le_of_ble_eq_true rfl, Nat.le_of_ble_eq_true rfl⟩ ⟨Nat.le_of_ble_eq_true rfl, Nat.le_of_ble_eq_true rfl⟩ rfl (rest := [.ref b5]) rfl (Nat.le_of_ble_eq_true rfl) dX0_numberOf_53 (fun H locs hP hS => ?_)
          obtain ⟨hs, h⟩ := chk_some h
          obtain ⟨r8, hc, h⟩ := bS h
          refine r_V1 C hK hX hb hP hS hl.1 (kX4_roleOf (hs) hc) hs cl_4 wd_1035 mo_X4_roleOf wd_359 wd_360 ⟨Nat.le_of_ble_eq_true rfl, Nat.le_of_ble_eq_true rfl⟩ ⟨Nat.le_of_ble_eq_true rfl, Nat.le_of_ble_eq_true rfl⟩ rfl (rest := []) rfl (Nat.le_of_ble_eq_true rfl) dX0_numberOf_56 (fun H locs hP hS => ?_)
          refine lv_iload_n C.1 C.2.1 dX0_numberOf_59 rfl (lv_at hl 2 rfl) ?_
          obtain ⟨r9, hc, h⟩ := bS h
          refine r_S1 C hK hX hb hP hS hl.1 (kX0_belongs hc) wd_1036 mo_X0_belongs wd_1037 ⟨Nat.le_of_ble_eq_true rfl, Nat.le_of_ble_eq_true rfl⟩ ⟨Nat.le_of_ble_eq_true rfl, Nat.le_of_ble_eq_true rfl⟩ rfl (rest := []) rfl (Nat.le_of_ble_eq_true rfl) dX0_numberOf_60 (fun H locs hP hS => ?_)
          refine b_eq (tgt := 69) C dX0_numberOf_63 (by decide) h (fun h => ?_) (fun h => ?_)
          · exact J69 (v4) (v5) _ _ _ hP hS (lv_sub hl [0, 1, 2, 3, 4, 5] rfl) h
          · refine lv_iinc (v := (v4 + 1)) (lv' := [(4, .int (v4 + 1)), (0, .ref a0), (1, .int a1), (2, .int a2), (3, .int v3), (5, .int v5)]) C.1 C.2.1 dX0_numberOf_66 hl (k := 4) rfl rfl (by decide) rfl (fun ls hl => ?_)
            exact J69 ((v4 + 1)) (v5) _ _ _ hP hS (lv_sub hl [1, 2, 3, 4, 0, 5] rfl) h
      · refine lv_iload C.1 C.2.1 dX0_numberOf_75 (lv_at hl 4 rfl) ?_
        have e := Option.some.inj h
        rw [← e] at hz1
        replace e := itK_inr hz1
        exact q_i C hlk hP hS hr (by rw [← e]) rfl dX0_numberOf_77
  unfold fX0_numberOf at h
  refine lv_aload_n C.1 C.2.1 dX0_numberOf_0 rfl (lv_at hl 0 rfl) ?_
  refine r_tF C hK hP hT cl_0 (k := 0) (by decide) wd_257 rfl dX0_numberOf_1 h (fun b10 h => ?_)
  refine lv_iload_n C.1 C.2.1 dX0_numberOf_4 rfl (lv_at hl 1 rfl) ?_
  obtain ⟨hs, h⟩ := chk_some h
  obtain ⟨r11, hc, h⟩ := bS h
  refine r_V1 C hK hX hb hP hS hl.1 (kX4_parentOf (hs) hc) hs cl_4 wd_1034 mo_X4_parentOf wd_306 wd_307 ⟨Nat.le_of_ble_eq_true rfl, Nat.le_of_ble_eq_true rfl⟩ ⟨Nat.le_of_ble_eq_true rfl, Nat.le_of_ble_eq_true rfl⟩ rfl (rest := []) rfl (Nat.le_of_ble_eq_true rfl) dX0_numberOf_5 (fun H locs hP hS => ?_)
  refine lv_istore_n (lv' := [(3, .int r11), (0, .ref a0), (1, .int a1), (2, .int a2)]) C.1 C.2.1 dX0_numberOf_8 rfl hl (by decide) rfl (fun ls hl => ?_)
  refine lv_iconst (v := 0) C.1 C.2.1 dX0_numberOf_9 (by decide) ?_
  refine lv_istore (lv' := [(4, .int 0), (3, .int r11), (0, .ref a0), (1, .int a1), (2, .int a2)]) C.1 C.2.1 dX0_numberOf_10 hl (by decide) rfl (fun ls hl => ?_)
  refine lv_iconst (v := 0) C.1 C.2.1 dX0_numberOf_12 (by decide) ?_
  refine lv_istore (lv' := [(5, .int 0), (4, .int 0), (3, .int r11), (0, .ref a0), (1, .int a1), (2, .int a2)]) C.1 C.2.1 dX0_numberOf_13 hl (by decide) rfl (fun ls hl => ?_)
  exact J15 (r11) n (0) (0) _ _ _ hP hS (lv_sub hl [3, 4, 5, 2, 1, 0] rfl) h
theorem dX0_columnOf_0 : decode cX0_columnOf 0 = .ok (.aload_n 0, 1) := by decide +kernel
theorem dX0_columnOf_1 : decode cX0_columnOf 1 = .ok (.iload_n 1, 1) := by decide +kernel
theorem dX0_columnOf_2 : decode cX0_columnOf 2 = .ok (.iconst 0, 1) := by decide +kernel
theorem dX0_columnOf_3 : decode cX0_columnOf 3 = .ok (.invokevirtual 28, 3) := by decide +kernel
theorem dX0_columnOf_6 : decode cX0_columnOf 6 = .ok (.ireturn, 1) := by decide +kernel
abbrev rmX0_columnOf : Room := { frames := 3, cells := 0, slots := 0, locals := 87 }
noncomputable def fX0_columnOf (n : Nat) (Sh : Sp) (M : Mm) (a0 : Nat) (a1 : Int32) : Option Int32 :=
  (fX0_numberOf n Sh M a0 a1 0).bind fun r1 =>
  some r1
set_option maxRecDepth 100000 in
set_option maxHeartbeats 4000000 in
theorem kX0_columnOf {l : Launch} {G : Gt} {n : Nat} {Sh : Sp} {M : Mm} {a0 : Nat} {a1 : Int32} (hT : Sh a0 = some (.inl 0)) {r : Int32} (h : fX0_columnOf n Sh M a0 a1 = some r) : Ct l yX0_columnOf cX0_columnOf 2 (some .int) rmX0_columnOf G Sh M [.ref a0, .int a1] (some (.int r)) M := by
  refine Ct.of (by decide) (Nat.le_of_ble_eq_true rfl) ?_
  intro p e s m args below meth c ls C hK hX hP hS hb hlk hr hl
  replace hl : lv_has ls 2 [(0, .ref a0), (1, .int a1)] := hl
  unfold fX0_columnOf at h
  refine lv_aload_n C.1 C.2.1 dX0_columnOf_0 rfl (lv_at hl 0 rfl) ?_
  refine lv_iload_n C.1 C.2.1 dX0_columnOf_1 rfl (lv_at hl 1 rfl) ?_
  refine lv_iconst (v := 0) C.1 C.2.1 dX0_columnOf_2 (by decide) ?_
  obtain ⟨r1, hc, h⟩ := bS h
  refine r_V1 C hK hX hb hP hS hl.1 (kX0_numberOf (hT) hc) hT cl_0 wd_1043 mo_X0_numberOf wd_1045 wd_17 ⟨Nat.le_of_ble_eq_true rfl, Nat.le_of_ble_eq_true rfl⟩ ⟨Nat.le_of_ble_eq_true rfl, Nat.le_of_ble_eq_true rfl⟩ rfl (rest := []) rfl (Nat.le_of_ble_eq_true rfl) dX0_columnOf_3 (fun H locs hP hS => ?_)
  have e := Option.some.inj h
  exact q_i C hlk hP hS hr (by rw [← e]) rfl dX0_columnOf_6
theorem dX0_rowOf_0 : decode cX0_rowOf 0 = .ok (.aload_n 0, 1) := by decide +kernel
theorem dX0_rowOf_1 : decode cX0_rowOf 1 = .ok (.aload_n 0, 1) := by decide +kernel
theorem dX0_rowOf_2 : decode cX0_rowOf 2 = .ok (.getfield 9, 3) := by decide +kernel
theorem dX0_rowOf_5 : decode cX0_rowOf 5 = .ok (.iload_n 1, 1) := by decide +kernel
theorem dX0_rowOf_6 : decode cX0_rowOf 6 = .ok (.invokevirtual 15, 3) := by decide +kernel
theorem dX0_rowOf_9 : decode cX0_rowOf 9 = .ok (.iconst 1, 1) := by decide +kernel
theorem dX0_rowOf_10 : decode cX0_rowOf 10 = .ok (.invokevirtual 28, 3) := by decide +kernel
theorem dX0_rowOf_13 : decode cX0_rowOf 13 = .ok (.ireturn, 1) := by decide +kernel
abbrev rmX0_rowOf : Room := { frames := 3, cells := 0, slots := 0, locals := 87 }
noncomputable def fX0_rowOf (n : Nat) (Sh : Sp) (M : Mm) (a0 : Nat) (a1 : Int32) : Option Int32 :=
  tF M a0 0 fun b1 =>
  chk (Sh b1 = some (.inl 4)) <|
  (fX4_parentOf n Sh M b1 a1).bind fun r2 =>
  (fX0_numberOf n Sh M a0 r2 1).bind fun r3 =>
  some r3
set_option maxRecDepth 100000 in
set_option maxHeartbeats 4000000 in
theorem kX0_rowOf {l : Launch} {G : Gt} {n : Nat} {Sh : Sp} {M : Mm} {a0 : Nat} {a1 : Int32} (hT : Sh a0 = some (.inl 0)) {r : Int32} (h : fX0_rowOf n Sh M a0 a1 = some r) : Ct l yX0_rowOf cX0_rowOf 2 (some .int) rmX0_rowOf G Sh M [.ref a0, .int a1] (some (.int r)) M := by
  refine Ct.of (by decide) (Nat.le_of_ble_eq_true rfl) ?_
  intro p e s m args below meth c ls C hK hX hP hS hb hlk hr hl
  replace hl : lv_has ls 2 [(0, .ref a0), (1, .int a1)] := hl
  unfold fX0_rowOf at h
  refine lv_aload_n C.1 C.2.1 dX0_rowOf_0 rfl (lv_at hl 0 rfl) ?_
  refine lv_aload_n C.1 C.2.1 dX0_rowOf_1 rfl (lv_at hl 0 rfl) ?_
  refine r_tF C hK hP hT cl_0 (k := 0) (by decide) wd_257 rfl dX0_rowOf_2 h (fun b1 h => ?_)
  refine lv_iload_n C.1 C.2.1 dX0_rowOf_5 rfl (lv_at hl 1 rfl) ?_
  obtain ⟨hs, h⟩ := chk_some h
  obtain ⟨r2, hc, h⟩ := bS h
  refine r_V1 C hK hX hb hP hS hl.1 (kX4_parentOf (hs) hc) hs cl_4 wd_1034 mo_X4_parentOf wd_306 wd_307 ⟨Nat.le_of_ble_eq_true rfl, Nat.le_of_ble_eq_true rfl⟩ ⟨Nat.le_of_ble_eq_true rfl, Nat.le_of_ble_eq_true rfl⟩ rfl (rest := [.ref a0]) rfl (Nat.le_of_ble_eq_true rfl) dX0_rowOf_6 (fun H locs hP hS => ?_)
  refine lv_iconst (v := 1) C.1 C.2.1 dX0_rowOf_9 (by decide) ?_
  obtain ⟨r3, hc, h⟩ := bS h
  refine r_V1 C hK hX hb hP hS hl.1 (kX0_numberOf (hT) hc) hT cl_0 wd_1043 mo_X0_numberOf wd_1045 wd_17 ⟨Nat.le_of_ble_eq_true rfl, Nat.le_of_ble_eq_true rfl⟩ ⟨Nat.le_of_ble_eq_true rfl, Nat.le_of_ble_eq_true rfl⟩ rfl (rest := []) rfl (Nat.le_of_ble_eq_true rfl) dX0_rowOf_10 (fun H locs hP hS => ?_)
  have e := Option.some.inj h
  exact q_i C hlk hP hS hr (by rw [← e]) rfl dX0_rowOf_13
theorem dX0_pick_0 : decode cX0_pick 0 = .ok (.iconst 0, 1) := by decide +kernel
theorem dX0_pick_1 : decode cX0_pick 1 = .ok (.istore 4, 2) := by decide +kernel
theorem dX0_pick_3 : decode cX0_pick 3 = .ok (.iconst 0, 1) := by decide +kernel
theorem dX0_pick_4 : decode cX0_pick 4 = .ok (.istore 5, 2) := by decide +kernel
theorem dX0_pick_6 : decode cX0_pick 6 = .ok (.iload 5, 2) := by decide +kernel
theorem dX0_pick_8 : decode cX0_pick 8 = .ok (.aload_n 0, 1) := by decide +kernel
theorem dX0_pick_9 : decode cX0_pick 9 = .ok (.getfield 9, 3) := by decide +kernel
theorem dX0_pick_12 : decode cX0_pick 12 = .ok (.iload_n 1, 1) := by decide +kernel
theorem dX0_pick_13 : decode cX0_pick 13 = .ok (.invokevirtual 63, 3) := by decide +kernel
theorem dX0_pick_16 : decode cX0_pick 16 = .ok (.if_icmp .ge 49, 3) := by decide +kernel
theorem dX0_pick_19 : decode cX0_pick 19 = .ok (.aload_n 0, 1) := by decide +kernel
theorem dX0_pick_20 : decode cX0_pick 20 = .ok (.getfield 9, 3) := by decide +kernel
theorem dX0_pick_23 : decode cX0_pick 23 = .ok (.iload_n 1, 1) := by decide +kernel
theorem dX0_pick_24 : decode cX0_pick 24 = .ok (.iload 5, 2) := by decide +kernel
theorem dX0_pick_26 : decode cX0_pick 26 = .ok (.invokevirtual 59, 3) := by decide +kernel
theorem dX0_pick_29 : decode cX0_pick 29 = .ok (.istore 6, 2) := by decide +kernel
theorem dX0_pick_31 : decode cX0_pick 31 = .ok (.aload_n 0, 1) := by decide +kernel
theorem dX0_pick_32 : decode cX0_pick 32 = .ok (.getfield 9, 3) := by decide +kernel
theorem dX0_pick_35 : decode cX0_pick 35 = .ok (.iload 6, 2) := by decide +kernel
theorem dX0_pick_37 : decode cX0_pick 37 = .ok (.invokevirtual 21, 3) := by decide +kernel
theorem dX0_pick_40 : decode cX0_pick 40 = .ok (.iload_n 3, 1) := by decide +kernel
theorem dX0_pick_41 : decode cX0_pick 41 = .ok (.invokestatic 24, 3) := by decide +kernel
theorem dX0_pick_44 : decode cX0_pick 44 = .ok (.ifCond .eq 15, 3) := by decide +kernel
theorem dX0_pick_47 : decode cX0_pick 47 = .ok (.iload 4, 2) := by decide +kernel
theorem dX0_pick_49 : decode cX0_pick 49 = .ok (.iload_n 2, 1) := by decide +kernel
theorem dX0_pick_50 : decode cX0_pick 50 = .ok (.if_icmp .ne 6, 3) := by decide +kernel
theorem dX0_pick_53 : decode cX0_pick 53 = .ok (.iload 6, 2) := by decide +kernel
theorem dX0_pick_55 : decode cX0_pick 55 = .ok (.ireturn, 1) := by decide +kernel
theorem dX0_pick_56 : decode cX0_pick 56 = .ok (.iinc 4 1, 3) := by decide +kernel
theorem dX0_pick_59 : decode cX0_pick 59 = .ok (.iinc 5 1, 3) := by decide +kernel
theorem dX0_pick_62 : decode cX0_pick 62 = .ok (.goto (-56), 3) := by decide +kernel
theorem dX0_pick_65 : decode cX0_pick 65 = .ok (.iconst (-1), 1) := by decide +kernel
theorem dX0_pick_66 : decode cX0_pick 66 = .ok (.ireturn, 1) := by decide +kernel
abbrev rmX0_pick : Room := { frames := 2, cells := 0, slots := 0, locals := 62 }
noncomputable def fX0_pick_59 (n : Nat) (Sh : Sp) (M : Mm) (a0 : Nat) (a1 : Int32) (a2 : Int32) (a3 : Int32) (v4 : Int32) (v5 : Int32) : Option ((Int32 × Int32) ⊕ Int32) :=
  some (Sum.inl (v4, (v5 + 1)))
noncomputable def fX0_pick_6b (n : Nat) (Sh : Sp) (M : Mm) (a0 : Nat) (a1 : Int32) (a2 : Int32) (a3 : Int32) (v4 : Int32) (v5 : Int32) : Option ((Int32 × Int32) ⊕ Int32) :=
  tF M a0 0 fun b1 =>
  chk (Sh b1 = some (.inl 4)) <|
  (fX4_kidCount n Sh M b1 a1).bind fun r2 =>
  if v5 < r2 then
    tF M a0 0 fun b3 =>
    chk (Sh b3 = some (.inl 4)) <|
    (fX4_kidAt n Sh M b3 a1 v5).bind fun r4 =>
    tF M a0 0 fun b5 =>
    chk (Sh b5 = some (.inl 4)) <|
    (fX4_roleOf n Sh M b5 r4).bind fun r6 =>
    (fX0_belongs n Sh M r6 a3).bind fun r7 =>
    if r7 = 0 then
      fX0_pick_59 n Sh M a0 a1 a2 a3 v4 v5
    else
      if v4 = a2 then
        some (Sum.inr r4)
      else
        fX0_pick_59 n Sh M a0 a1 a2 a3 (v4 + 1) v5
  else
    some (Sum.inr (-1))
noncomputable def fX0_pick_6 (n : Nat) (Sh : Sp) (M : Mm) (a0 : Nat) (a1 : Int32) (a2 : Int32) (a3 : Int32) (v4 : Int32) (v5 : Int32) : Option Int32 :=
  iter n (fun s => fX0_pick_6b n Sh M a0 a1 a2 a3 s.1 s.2) (v4, v5)
noncomputable def fX0_pick (n : Nat) (Sh : Sp) (M : Mm) (a0 : Nat) (a1 : Int32) (a2 : Int32) (a3 : Int32) : Option Int32 :=
  fX0_pick_6 n Sh M a0 a1 a2 a3 0 0
set_option maxRecDepth 100000 in
set_option maxHeartbeats 4000000 in
theorem kX0_pick {l : Launch} {G : Gt} {n : Nat} {Sh : Sp} {M : Mm} {a0 : Nat} {a1 : Int32} {a2 : Int32} {a3 : Int32} (hT : Sh a0 = some (.inl 0)) {r : Int32} (h : fX0_pick n Sh M a0 a1 a2 a3 = some r) : Ct l yX0_pick cX0_pick 7 (some .int) rmX0_pick G Sh M [.ref a0, .int a1, .int a2, .int a3] (some (.int r)) M := by
  refine Ct.of (by decide) (Nat.le_of_ble_eq_true rfl) ?_
  intro p e s m args below meth c ls C hK hX hP hS hb hlk hr hl
  replace hl : lv_has ls 7 [(0, .ref a0), (1, .int a1), (2, .int a2), (3, .int a3)] := hl
  have J6 : ∀ (k : Nat) (v4 : Int32) (v5 : Int32) (H : Heap) (locs : List Loc) (ls : Array Slot), HM G Sh M H → SS G s s.heap.size H locs → lv_has ls 7 [(0, .ref a0), (1, .int a1), (2, .int a2), (3, .int a3), (4, .int v4), (5, .int v5)] → iter k (fun s => fX0_pick_6b n Sh M a0 a1 a2 a3 s.1 s.2) (v4, v5) = some r → W p l e rmX0_pick s m args below meth c H locs 0 0 (MQ below (QG G Sh M (some (.int r))) args s rmX0_pick.cells rmX0_pick.slots (AA G)) (F0 m 6 ls []) := by
    intro k
    induction k with
    | zero => intro v4 v5 H locs ls hP hS hl h; exact (iter_0 h).elim
    | succ k ih1 =>
      intro v4 v5 H locs ls hP hS hl h
      obtain ⟨z1, h, hz1⟩ := iter_some h
      replace h : fX0_pick_6b n Sh M a0 a1 a2 a3 v4 v5 = some z1 := h
      have J59 : ∀ (v4 : Int32) (v5 : Int32) (H : Heap) (locs : List Loc) (ls : Array Slot), HM G Sh M H → SS G s s.heap.size H locs → lv_has ls 7 [(0, .ref a0), (1, .int a1), (2, .int a2), (3, .int a3), (4, .int v4), (5, .int v5)] → fX0_pick_59 n Sh M a0 a1 a2 a3 v4 v5 = some z1 → W p l e rmX0_pick s m args below meth c H locs 0 0 (MQ below (QG G Sh M (some (.int r))) args s rmX0_pick.cells rmX0_pick.slots (AA G)) (F0 m 59 ls []) := by
        intro v4 v5 H locs ls hP hS hl h
        unfold fX0_pick_59 at h
        refine lv_iinc (v := (v5 + 1)) (lv' := [(5, .int (v5 + 1)), (0, .ref a0), (1, .int a1), (2, .int a2), (3, .int a3), (4, .int v4)]) C.1 C.2.1 dX0_pick_59 hl (k := 5) rfl rfl (by decide) rfl (fun ls hl => ?_)
        refine lv_goto (tgt := 6) C.1 C.2.1 dX0_pick_62 (by decide) ?_
        have e := Option.some.inj h
        rw [← e] at hz1
        exact ih1 (v4) ((v5 + 1)) _ _ _ hP hS (lv_sub hl [1, 2, 3, 4, 5, 0] rfl) (itK_inl hz1)
      unfold fX0_pick_6b at h
      refine lv_iload C.1 C.2.1 dX0_pick_6 (lv_at hl 5 rfl) ?_
      refine lv_aload_n C.1 C.2.1 dX0_pick_8 rfl (lv_at hl 0 rfl) ?_
      refine r_tF C hK hP hT cl_0 (k := 0) (by decide) wd_257 rfl dX0_pick_9 h (fun b1 h => ?_)
      refine lv_iload_n C.1 C.2.1 dX0_pick_12 rfl (lv_at hl 1 rfl) ?_
      obtain ⟨hs, h⟩ := chk_some h
      obtain ⟨r2, hc, h⟩ := bS h
      refine r_V1 C hK hX hb hP hS hl.1 (kX4_kidCount (hs) hc) hs cl_4 wd_1047 mo_X4_kidCount wd_322 wd_323 ⟨Nat.le_of_ble_eq_true rfl, Nat.le_of_ble_eq_true rfl⟩ ⟨Nat.le_of_ble_eq_true rfl, Nat.le_of_ble_eq_true rfl⟩ rfl (rest := [.int v5]) rfl (Nat.le_of_ble_eq_true rfl) dX0_pick_13 (fun H locs hP hS => ?_)
      refine b_ige (tgt := 65) C dX0_pick_16 (by decide) h (fun h => ?_) (fun h => ?_)
      · refine lv_aload_n C.1 C.2.1 dX0_pick_19 rfl (lv_at hl 0 rfl) ?_
        refine r_tF C hK hP hT cl_0 (k := 0) (by decide) wd_257 rfl dX0_pick_20 h (fun b3 h => ?_)
        refine lv_iload_n C.1 C.2.1 dX0_pick_23 rfl (lv_at hl 1 rfl) ?_
        refine lv_iload C.1 C.2.1 dX0_pick_24 (lv_at hl 5 rfl) ?_
        obtain ⟨hs, h⟩ := chk_some h
        obtain ⟨r4, hc, h⟩ := bS h
        refine r_V1 C hK hX hb hP hS hl.1 (kX4_kidAt (hs) hc) hs cl_4 wd_1048 mo_X4_kidAt wd_326 wd_327 ⟨Nat.le_of_ble_eq_true rfl, Nat.le_of_ble_eq_true rfl⟩ ⟨Nat.le_of_ble_eq_true rfl, Nat.le_of_ble_eq_true rfl⟩ rfl (rest := []) rfl (Nat.le_of_ble_eq_true rfl) dX0_pick_26 (fun H locs hP hS => ?_)
        refine lv_istore (lv' := [(6, .int r4), (0, .ref a0), (1, .int a1), (2, .int a2), (3, .int a3), (4, .int v4), (5, .int v5)]) C.1 C.2.1 dX0_pick_29 hl (by decide) rfl (fun ls hl => ?_)
        refine lv_aload_n C.1 C.2.1 dX0_pick_31 rfl (lv_at hl 1 rfl) ?_
        refine r_tF C hK hP hT cl_0 (k := 0) (by decide) wd_257 rfl dX0_pick_32 h (fun b5 h => ?_)
        refine lv_iload C.1 C.2.1 dX0_pick_35 (lv_at hl 0 rfl) ?_
        obtain ⟨hs, h⟩ := chk_some h
        obtain ⟨r6, hc, h⟩ := bS h
        refine r_V1 C hK hX hb hP hS hl.1 (kX4_roleOf (hs) hc) hs cl_4 wd_1035 mo_X4_roleOf wd_359 wd_360 ⟨Nat.le_of_ble_eq_true rfl, Nat.le_of_ble_eq_true rfl⟩ ⟨Nat.le_of_ble_eq_true rfl, Nat.le_of_ble_eq_true rfl⟩ rfl (rest := []) rfl (Nat.le_of_ble_eq_true rfl) dX0_pick_37 (fun H locs hP hS => ?_)
        refine lv_iload_n C.1 C.2.1 dX0_pick_40 rfl (lv_at hl 4 rfl) ?_
        obtain ⟨r7, hc, h⟩ := bS h
        refine r_S1 C hK hX hb hP hS hl.1 (kX0_belongs hc) wd_1036 mo_X0_belongs wd_1037 ⟨Nat.le_of_ble_eq_true rfl, Nat.le_of_ble_eq_true rfl⟩ ⟨Nat.le_of_ble_eq_true rfl, Nat.le_of_ble_eq_true rfl⟩ rfl (rest := []) rfl (Nat.le_of_ble_eq_true rfl) dX0_pick_41 (fun H locs hP hS => ?_)
        refine b_eq (tgt := 59) C dX0_pick_44 (by decide) h (fun h => ?_) (fun h => ?_)
        · exact J59 (v4) (v5) _ _ _ hP hS (lv_sub hl [1, 2, 3, 4, 5, 6] rfl) h
        · refine lv_iload C.1 C.2.1 dX0_pick_47 (lv_at hl 5 rfl) ?_
          refine lv_iload_n C.1 C.2.1 dX0_pick_49 rfl (lv_at hl 3 rfl) ?_
          refine b_ine (tgt := 56) C dX0_pick_50 (by decide) h (fun h => ?_) (fun h => ?_)
          · refine lv_iload C.1 C.2.1 dX0_pick_53 (lv_at hl 0 rfl) ?_
            have e := Option.some.inj h
            rw [← e] at hz1
            replace e := itK_inr hz1
            exact q_i C hlk hP hS hr (by rw [← e]) rfl dX0_pick_55
          · refine lv_iinc (v := (v4 + 1)) (lv' := [(4, .int (v4 + 1)), (6, .int r4), (0, .ref a0), (1, .int a1), (2, .int a2), (3, .int a3), (5, .int v5)]) C.1 C.2.1 dX0_pick_56 hl (k := 5) rfl rfl (by decide) rfl (fun ls hl => ?_)
            exact J59 ((v4 + 1)) (v5) _ _ _ hP hS (lv_sub hl [2, 3, 4, 5, 0, 6] rfl) h
      · refine lv_iconst (v := (-1)) C.1 C.2.1 dX0_pick_65 (by decide) ?_
        have e := Option.some.inj h
        rw [← e] at hz1
        replace e := itK_inr hz1
        exact q_i C hlk hP hS hr (by rw [← e]) rfl dX0_pick_66
  unfold fX0_pick at h
  refine lv_iconst (v := 0) C.1 C.2.1 dX0_pick_0 (by decide) ?_
  refine lv_istore (lv' := [(4, .int 0), (0, .ref a0), (1, .int a1), (2, .int a2), (3, .int a3)]) C.1 C.2.1 dX0_pick_1 hl (by decide) rfl (fun ls hl => ?_)
  refine lv_iconst (v := 0) C.1 C.2.1 dX0_pick_3 (by decide) ?_
  refine lv_istore (lv' := [(5, .int 0), (4, .int 0), (0, .ref a0), (1, .int a1), (2, .int a2), (3, .int a3)]) C.1 C.2.1 dX0_pick_4 hl (by decide) rfl (fun ls hl => ?_)
  exact J6  n (0) (0) _ _ _ hP hS (lv_sub hl [2, 3, 4, 5, 1, 0] rfl) h
theorem dX0_cellIn_0 : decode cX0_cellIn 0 = .ok (.aload_n 0, 1) := by decide +kernel
theorem dX0_cellIn_1 : decode cX0_cellIn 1 = .ok (.aload_n 0, 1) := by decide +kernel
theorem dX0_cellIn_2 : decode cX0_cellIn 2 = .ok (.iload_n 1, 1) := by decide +kernel
theorem dX0_cellIn_3 : decode cX0_cellIn 3 = .ok (.iload_n 2, 1) := by decide +kernel
theorem dX0_cellIn_4 : decode cX0_cellIn 4 = .ok (.iconst 1, 1) := by decide +kernel
theorem dX0_cellIn_5 : decode cX0_cellIn 5 = .ok (.invokevirtual 32, 3) := by decide +kernel
theorem dX0_cellIn_8 : decode cX0_cellIn 8 = .ok (.iload_n 3, 1) := by decide +kernel
theorem dX0_cellIn_9 : decode cX0_cellIn 9 = .ok (.iconst 0, 1) := by decide +kernel
theorem dX0_cellIn_10 : decode cX0_cellIn 10 = .ok (.invokevirtual 32, 3) := by decide +kernel
theorem dX0_cellIn_13 : decode cX0_cellIn 13 = .ok (.ireturn, 1) := by decide +kernel
abbrev rmX0_cellIn : Room := { frames := 3, cells := 0, slots := 0, locals := 88 }
noncomputable def fX0_cellIn (n : Nat) (Sh : Sp) (M : Mm) (a0 : Nat) (a1 : Int32) (a2 : Int32) (a3 : Int32) : Option Int32 :=
  (fX0_pick n Sh M a0 a1 a2 1).bind fun r1 =>
  (fX0_pick n Sh M a0 r1 a3 0).bind fun r2 =>
  some r2
set_option maxRecDepth 100000 in
set_option maxHeartbeats 4000000 in
theorem kX0_cellIn {l : Launch} {G : Gt} {n : Nat} {Sh : Sp} {M : Mm} {a0 : Nat} {a1 : Int32} {a2 : Int32} {a3 : Int32} (hT : Sh a0 = some (.inl 0)) {r : Int32} (h : fX0_cellIn n Sh M a0 a1 a2 a3 = some r) : Ct l yX0_cellIn cX0_cellIn 4 (some .int) rmX0_cellIn G Sh M [.ref a0, .int a1, .int a2, .int a3] (some (.int r)) M := by
  refine Ct.of (by decide) (Nat.le_of_ble_eq_true rfl) ?_
  intro p e s m args below meth c ls C hK hX hP hS hb hlk hr hl
  replace hl : lv_has ls 4 [(0, .ref a0), (1, .int a1), (2, .int a2), (3, .int a3)] := hl
  unfold fX0_cellIn at h
  refine lv_aload_n C.1 C.2.1 dX0_cellIn_0 rfl (lv_at hl 0 rfl) ?_
  refine lv_aload_n C.1 C.2.1 dX0_cellIn_1 rfl (lv_at hl 0 rfl) ?_
  refine lv_iload_n C.1 C.2.1 dX0_cellIn_2 rfl (lv_at hl 1 rfl) ?_
  refine lv_iload_n C.1 C.2.1 dX0_cellIn_3 rfl (lv_at hl 2 rfl) ?_
  refine lv_iconst (v := 1) C.1 C.2.1 dX0_cellIn_4 (by decide) ?_
  obtain ⟨r1, hc, h⟩ := bS h
  refine r_V1 C hK hX hb hP hS hl.1 (kX0_pick (hT) hc) hT cl_0 wd_1064 mo_X0_pick wd_1066 wd_18 ⟨Nat.le_of_ble_eq_true rfl, Nat.le_of_ble_eq_true rfl⟩ ⟨Nat.le_of_ble_eq_true rfl, Nat.le_of_ble_eq_true rfl⟩ rfl (rest := [.ref a0]) rfl (Nat.le_of_ble_eq_true rfl) dX0_cellIn_5 (fun H locs hP hS => ?_)
  refine lv_iload_n C.1 C.2.1 dX0_cellIn_8 rfl (lv_at hl 3 rfl) ?_
  refine lv_iconst (v := 0) C.1 C.2.1 dX0_cellIn_9 (by decide) ?_
  obtain ⟨r2, hc, h⟩ := bS h
  refine r_V1 C hK hX hb hP hS hl.1 (kX0_pick (hT) hc) hT cl_0 wd_1064 mo_X0_pick wd_1066 wd_18 ⟨Nat.le_of_ble_eq_true rfl, Nat.le_of_ble_eq_true rfl⟩ ⟨Nat.le_of_ble_eq_true rfl, Nat.le_of_ble_eq_true rfl⟩ rfl (rest := []) rfl (Nat.le_of_ble_eq_true rfl) dX0_cellIn_10 (fun H locs hP hS => ?_)
  have e := Option.some.inj h
  exact q_i C hlk hP hS hr (by rw [← e]) rfl dX0_cellIn_13
theorem dX0_columnHeaderOf_0 : decode cX0_columnHeaderOf 0 = .ok (.aload_n 0, 1) := by decide +kernel
theorem dX0_columnHeaderOf_1 : decode cX0_columnHeaderOf 1 = .ok (.getfield 9, 3) := by decide +kernel
theorem dX0_columnHeaderOf_4 : decode cX0_columnHeaderOf 4 = .ok (.aload_n 0, 1) := by decide +kernel
theorem dX0_columnHeaderOf_5 : decode cX0_columnHeaderOf 5 = .ok (.getfield 9, 3) := by decide +kernel
theorem dX0_columnHeaderOf_8 : decode cX0_columnHeaderOf 8 = .ok (.iload_n 1, 1) := by decide +kernel
theorem dX0_columnHeaderOf_9 : decode cX0_columnHeaderOf 9 = .ok (.invokevirtual 15, 3) := by decide +kernel
theorem dX0_columnHeaderOf_12 : decode cX0_columnHeaderOf 12 = .ok (.invokevirtual 15, 3) := by decide +kernel
theorem dX0_columnHeaderOf_15 : decode cX0_columnHeaderOf 15 = .ok (.istore_n 2, 1) := by decide +kernel
theorem dX0_columnHeaderOf_16 : decode cX0_columnHeaderOf 16 = .ok (.aload_n 0, 1) := by decide +kernel
theorem dX0_columnHeaderOf_17 : decode cX0_columnHeaderOf 17 = .ok (.iload_n 1, 1) := by decide +kernel
theorem dX0_columnHeaderOf_18 : decode cX0_columnHeaderOf 18 = .ok (.invokevirtual 49, 3) := by decide +kernel
theorem dX0_columnHeaderOf_21 : decode cX0_columnHeaderOf 21 = .ok (.istore_n 3, 1) := by decide +kernel
theorem dX0_columnHeaderOf_22 : decode cX0_columnHeaderOf 22 = .ok (.aload_n 0, 1) := by decide +kernel
theorem dX0_columnHeaderOf_23 : decode cX0_columnHeaderOf 23 = .ok (.iload_n 1, 1) := by decide +kernel
theorem dX0_columnHeaderOf_24 : decode cX0_columnHeaderOf 24 = .ok (.invokevirtual 46, 3) := by decide +kernel
theorem dX0_columnHeaderOf_27 : decode cX0_columnHeaderOf 27 = .ok (.iconst 1, 1) := by decide +kernel
theorem dX0_columnHeaderOf_28 : decode cX0_columnHeaderOf 28 = .ok (.isub, 1) := by decide +kernel
theorem dX0_columnHeaderOf_29 : decode cX0_columnHeaderOf 29 = .ok (.istore 4, 2) := by decide +kernel
theorem dX0_columnHeaderOf_31 : decode cX0_columnHeaderOf 31 = .ok (.iload 4, 2) := by decide +kernel
theorem dX0_columnHeaderOf_33 : decode cX0_columnHeaderOf 33 = .ok (.ifCond .lt 36, 3) := by decide +kernel
theorem dX0_columnHeaderOf_36 : decode cX0_columnHeaderOf 36 = .ok (.aload_n 0, 1) := by decide +kernel
theorem dX0_columnHeaderOf_37 : decode cX0_columnHeaderOf 37 = .ok (.iload_n 2, 1) := by decide +kernel
theorem dX0_columnHeaderOf_38 : decode cX0_columnHeaderOf 38 = .ok (.iload 4, 2) := by decide +kernel
theorem dX0_columnHeaderOf_40 : decode cX0_columnHeaderOf 40 = .ok (.iload_n 3, 1) := by decide +kernel
theorem dX0_columnHeaderOf_41 : decode cX0_columnHeaderOf 41 = .ok (.invokevirtual 52, 3) := by decide +kernel
theorem dX0_columnHeaderOf_44 : decode cX0_columnHeaderOf 44 = .ok (.istore 5, 2) := by decide +kernel
theorem dX0_columnHeaderOf_46 : decode cX0_columnHeaderOf 46 = .ok (.aload_n 0, 1) := by decide +kernel
theorem dX0_columnHeaderOf_47 : decode cX0_columnHeaderOf 47 = .ok (.getfield 9, 3) := by decide +kernel
theorem dX0_columnHeaderOf_50 : decode cX0_columnHeaderOf 50 = .ok (.iload 5, 2) := by decide +kernel
theorem dX0_columnHeaderOf_52 : decode cX0_columnHeaderOf 52 = .ok (.invokevirtual 21, 3) := by decide +kernel
theorem dX0_columnHeaderOf_55 : decode cX0_columnHeaderOf 55 = .ok (.bipush 10, 2) := by decide +kernel
theorem dX0_columnHeaderOf_57 : decode cX0_columnHeaderOf 57 = .ok (.if_icmp .ne 6, 3) := by decide +kernel
theorem dX0_columnHeaderOf_60 : decode cX0_columnHeaderOf 60 = .ok (.iload 5, 2) := by decide +kernel
theorem dX0_columnHeaderOf_62 : decode cX0_columnHeaderOf 62 = .ok (.ireturn, 1) := by decide +kernel
theorem dX0_columnHeaderOf_63 : decode cX0_columnHeaderOf 63 = .ok (.iinc 4 (-1), 3) := by decide +kernel
theorem dX0_columnHeaderOf_66 : decode cX0_columnHeaderOf 66 = .ok (.goto (-35), 3) := by decide +kernel
theorem dX0_columnHeaderOf_69 : decode cX0_columnHeaderOf 69 = .ok (.iconst (-1), 1) := by decide +kernel
theorem dX0_columnHeaderOf_70 : decode cX0_columnHeaderOf 70 = .ok (.ireturn, 1) := by decide +kernel
abbrev rmX0_columnHeaderOf : Room := { frames := 4, cells := 0, slots := 0, locals := 111 }
noncomputable def fX0_columnHeaderOf_31b (n : Nat) (Sh : Sp) (M : Mm) (a0 : Nat) (a1 : Int32) (v2 : Int32) (v3 : Int32) (v4 : Int32) : Option (Int32 ⊕ Int32) :=
  if v4 < 0 then
    some (Sum.inr (-1))
  else
    (fX0_cellIn n Sh M a0 v2 v4 v3).bind fun r1 =>
    tF M a0 0 fun b2 =>
    chk (Sh b2 = some (.inl 4)) <|
    (fX4_roleOf n Sh M b2 r1).bind fun r3 =>
    if r3 = 10 then
      some (Sum.inr r1)
    else
      some (Sum.inl (v4 + (-1)))
noncomputable def fX0_columnHeaderOf_31 (n : Nat) (Sh : Sp) (M : Mm) (a0 : Nat) (a1 : Int32) (v2 : Int32) (v3 : Int32) (v4 : Int32) : Option Int32 :=
  iter n (fun s => fX0_columnHeaderOf_31b n Sh M a0 a1 v2 v3 s) v4
noncomputable def fX0_columnHeaderOf (n : Nat) (Sh : Sp) (M : Mm) (a0 : Nat) (a1 : Int32) : Option Int32 :=
  tF M a0 0 fun b4 =>
  tF M a0 0 fun b5 =>
  chk (Sh b5 = some (.inl 4)) <|
  (fX4_parentOf n Sh M b5 a1).bind fun r6 =>
  chk (Sh b4 = some (.inl 4)) <|
  (fX4_parentOf n Sh M b4 r6).bind fun r7 =>
  (fX0_columnOf n Sh M a0 a1).bind fun r8 =>
  (fX0_rowOf n Sh M a0 a1).bind fun r9 =>
  fX0_columnHeaderOf_31 n Sh M a0 a1 r7 r8 (r9 - 1)
set_option maxRecDepth 100000 in
set_option maxHeartbeats 4000000 in
theorem kX0_columnHeaderOf {l : Launch} {G : Gt} {n : Nat} {Sh : Sp} {M : Mm} {a0 : Nat} {a1 : Int32} (hT : Sh a0 = some (.inl 0)) {r : Int32} (h : fX0_columnHeaderOf n Sh M a0 a1 = some r) : Ct l yX0_columnHeaderOf cX0_columnHeaderOf 6 (some .int) rmX0_columnHeaderOf G Sh M [.ref a0, .int a1] (some (.int r)) M := by
  refine Ct.of (by decide) (Nat.le_of_ble_eq_true rfl) ?_
  intro p e s m args below meth c ls C hK hX hP hS hb hlk hr hl
  replace hl : lv_has ls 6 [(0, .ref a0), (1, .int a1)] := hl
  have J31 : ∀ (v2 : Int32) (v3 : Int32), ∀ (k : Nat) (v4 : Int32) (H : Heap) (locs : List Loc) (ls : Array Slot), HM G Sh M H → SS G s s.heap.size H locs → lv_has ls 6 [(0, .ref a0), (1, .int a1), (2, .int v2), (3, .int v3), (4, .int v4)] → iter k (fun s => fX0_columnHeaderOf_31b n Sh M a0 a1 v2 v3 s) v4 = some r → W p l e rmX0_columnHeaderOf s m args below meth c H locs 0 0 (MQ below (QG G Sh M (some (.int r))) args s rmX0_columnHeaderOf.cells rmX0_columnHeaderOf.slots (AA G)) (F0 m 31 ls []) := by
    intro v2 v3 k
    induction k with
    | zero => intro v4 H locs ls hP hS hl h; exact (iter_0 h).elim
    | succ k ih1 =>
      intro v4 H locs ls hP hS hl h
      obtain ⟨z1, h, hz1⟩ := iter_some h
      replace h : fX0_columnHeaderOf_31b n Sh M a0 a1 v2 v3 v4 = some z1 := h
      unfold fX0_columnHeaderOf_31b at h
      refine lv_iload C.1 C.2.1 dX0_columnHeaderOf_31 (lv_at hl 4 rfl) ?_
      refine b_lt (tgt := 69) C dX0_columnHeaderOf_33 (by decide) h (fun h => ?_) (fun h => ?_)
      · refine lv_iconst (v := (-1)) C.1 C.2.1 dX0_columnHeaderOf_69 (by decide) ?_
        have e := Option.some.inj h
        rw [← e] at hz1
        replace e := itK_inr hz1
        exact q_i C hlk hP hS hr (by rw [← e]) rfl dX0_columnHeaderOf_70
      · refine lv_aload_n C.1 C.2.1 dX0_columnHeaderOf_36 rfl (lv_at hl 0 rfl) ?_
        refine lv_iload_n C.1 C.2.1 dX0_columnHeaderOf_37 rfl (lv_at hl 2 rfl) ?_
        refine lv_iload C.1 C.2.1 dX0_columnHeaderOf_38 (lv_at hl 4 rfl) ?_
        refine lv_iload_n C.1 C.2.1 dX0_columnHeaderOf_40 rfl (lv_at hl 3 rfl) ?_
        obtain ⟨r1, hc, h⟩ := bS h
        refine r_V1 C hK hX hb hP hS hl.1 (kX0_cellIn (hT) hc) hT cl_0 wd_1086 mo_X0_cellIn wd_1061 wd_1062 ⟨Nat.le_of_ble_eq_true rfl, Nat.le_of_ble_eq_true rfl⟩ ⟨Nat.le_of_ble_eq_true rfl, Nat.le_of_ble_eq_true rfl⟩ rfl (rest := []) rfl (Nat.le_of_ble_eq_true rfl) dX0_columnHeaderOf_41 (fun H locs hP hS => ?_)
        refine lv_istore (lv' := [(5, .int r1), (0, .ref a0), (1, .int a1), (2, .int v2), (3, .int v3), (4, .int v4)]) C.1 C.2.1 dX0_columnHeaderOf_44 hl (by decide) rfl (fun ls hl => ?_)
        refine lv_aload_n C.1 C.2.1 dX0_columnHeaderOf_46 rfl (lv_at hl 1 rfl) ?_
        refine r_tF C hK hP hT cl_0 (k := 0) (by decide) wd_257 rfl dX0_columnHeaderOf_47 h (fun b2 h => ?_)
        refine lv_iload C.1 C.2.1 dX0_columnHeaderOf_50 (lv_at hl 0 rfl) ?_
        obtain ⟨hs, h⟩ := chk_some h
        obtain ⟨r3, hc, h⟩ := bS h
        refine r_V1 C hK hX hb hP hS hl.1 (kX4_roleOf (hs) hc) hs cl_4 wd_1035 mo_X4_roleOf wd_359 wd_360 ⟨Nat.le_of_ble_eq_true rfl, Nat.le_of_ble_eq_true rfl⟩ ⟨Nat.le_of_ble_eq_true rfl, Nat.le_of_ble_eq_true rfl⟩ rfl (rest := []) rfl (Nat.le_of_ble_eq_true rfl) dX0_columnHeaderOf_52 (fun H locs hP hS => ?_)
        refine lv_bipush (v := 10) C.1 C.2.1 dX0_columnHeaderOf_55 (by decide) ?_
        refine b_ine (tgt := 63) C dX0_columnHeaderOf_57 (by decide) h (fun h => ?_) (fun h => ?_)
        · refine lv_iload C.1 C.2.1 dX0_columnHeaderOf_60 (lv_at hl 0 rfl) ?_
          have e := Option.some.inj h
          rw [← e] at hz1
          replace e := itK_inr hz1
          exact q_i C hlk hP hS hr (by rw [← e]) rfl dX0_columnHeaderOf_62
        · refine lv_iinc (v := (v4 + (-1))) (lv' := [(4, .int (v4 + (-1))), (5, .int r1), (0, .ref a0), (1, .int a1), (2, .int v2), (3, .int v3)]) C.1 C.2.1 dX0_columnHeaderOf_63 hl (k := 5) rfl rfl (by decide) rfl (fun ls hl => ?_)
          refine lv_goto (tgt := 31) C.1 C.2.1 dX0_columnHeaderOf_66 (by decide) ?_
          have e := Option.some.inj h
          rw [← e] at hz1
          exact ih1 ((v4 + (-1))) _ _ _ hP hS (lv_sub hl [2, 3, 4, 5, 0] rfl) (itK_inl hz1)
  unfold fX0_columnHeaderOf at h
  refine lv_aload_n C.1 C.2.1 dX0_columnHeaderOf_0 rfl (lv_at hl 0 rfl) ?_
  refine r_tF C hK hP hT cl_0 (k := 0) (by decide) wd_257 rfl dX0_columnHeaderOf_1 h (fun b4 h => ?_)
  refine lv_aload_n C.1 C.2.1 dX0_columnHeaderOf_4 rfl (lv_at hl 0 rfl) ?_
  refine r_tF C hK hP hT cl_0 (k := 0) (by decide) wd_257 rfl dX0_columnHeaderOf_5 h (fun b5 h => ?_)
  refine lv_iload_n C.1 C.2.1 dX0_columnHeaderOf_8 rfl (lv_at hl 1 rfl) ?_
  obtain ⟨hs, h⟩ := chk_some h
  obtain ⟨r6, hc, h⟩ := bS h
  refine r_V1 C hK hX hb hP hS hl.1 (kX4_parentOf (hs) hc) hs cl_4 wd_1034 mo_X4_parentOf wd_306 wd_307 ⟨Nat.le_of_ble_eq_true rfl, Nat.le_of_ble_eq_true rfl⟩ ⟨Nat.le_of_ble_eq_true rfl, Nat.le_of_ble_eq_true rfl⟩ rfl (rest := [.ref b4]) rfl (Nat.le_of_ble_eq_true rfl) dX0_columnHeaderOf_9 (fun H locs hP hS => ?_)
  obtain ⟨hs, h⟩ := chk_some h
  obtain ⟨r7, hc, h⟩ := bS h
  refine r_V1 C hK hX hb hP hS hl.1 (kX4_parentOf (hs) hc) hs cl_4 wd_1034 mo_X4_parentOf wd_306 wd_307 ⟨Nat.le_of_ble_eq_true rfl, Nat.le_of_ble_eq_true rfl⟩ ⟨Nat.le_of_ble_eq_true rfl, Nat.le_of_ble_eq_true rfl⟩ rfl (rest := []) rfl (Nat.le_of_ble_eq_true rfl) dX0_columnHeaderOf_12 (fun H locs hP hS => ?_)
  refine lv_istore_n (lv' := [(2, .int r7), (0, .ref a0), (1, .int a1)]) C.1 C.2.1 dX0_columnHeaderOf_15 rfl hl (by decide) rfl (fun ls hl => ?_)
  refine lv_aload_n C.1 C.2.1 dX0_columnHeaderOf_16 rfl (lv_at hl 1 rfl) ?_
  refine lv_iload_n C.1 C.2.1 dX0_columnHeaderOf_17 rfl (lv_at hl 2 rfl) ?_
  obtain ⟨r8, hc, h⟩ := bS h
  refine r_V1 C hK hX hb hP hS hl.1 (kX0_columnOf (hT) hc) hT cl_0 wd_1084 mo_X0_columnOf wd_1040 wd_1041 ⟨Nat.le_of_ble_eq_true rfl, Nat.le_of_ble_eq_true rfl⟩ ⟨Nat.le_of_ble_eq_true rfl, Nat.le_of_ble_eq_true rfl⟩ rfl (rest := []) rfl (Nat.le_of_ble_eq_true rfl) dX0_columnHeaderOf_18 (fun H locs hP hS => ?_)
  refine lv_istore_n (lv' := [(3, .int r8), (2, .int r7), (0, .ref a0), (1, .int a1)]) C.1 C.2.1 dX0_columnHeaderOf_21 rfl hl (by decide) rfl (fun ls hl => ?_)
  refine lv_aload_n C.1 C.2.1 dX0_columnHeaderOf_22 rfl (lv_at hl 2 rfl) ?_
  refine lv_iload_n C.1 C.2.1 dX0_columnHeaderOf_23 rfl (lv_at hl 3 rfl) ?_
  obtain ⟨r9, hc, h⟩ := bS h
  refine r_V1 C hK hX hb hP hS hl.1 (kX0_rowOf (hT) hc) hT cl_0 wd_1085 mo_X0_rowOf wd_1050 wd_1051 ⟨Nat.le_of_ble_eq_true rfl, Nat.le_of_ble_eq_true rfl⟩ ⟨Nat.le_of_ble_eq_true rfl, Nat.le_of_ble_eq_true rfl⟩ rfl (rest := []) rfl (Nat.le_of_ble_eq_true rfl) dX0_columnHeaderOf_24 (fun H locs hP hS => ?_)
  refine lv_iconst (v := 1) C.1 C.2.1 dX0_columnHeaderOf_27 (by decide) ?_
  refine lv_isub C.1 C.2.1 dX0_columnHeaderOf_28 ?_
  refine lv_istore (lv' := [(4, .int (r9 - 1)), (3, .int r8), (2, .int r7), (0, .ref a0), (1, .int a1)]) C.1 C.2.1 dX0_columnHeaderOf_29 hl (by decide) rfl (fun ls hl => ?_)
  exact J31 (r7) (r8) n ((r9 - 1)) _ _ _ hP hS (lv_sub hl [3, 4, 2, 1, 0] rfl) h
theorem dX0_rowHeaderOf_0 : decode cX0_rowHeaderOf 0 = .ok (.aload_n 0, 1) := by decide +kernel
theorem dX0_rowHeaderOf_1 : decode cX0_rowHeaderOf 1 = .ok (.getfield 9, 3) := by decide +kernel
theorem dX0_rowHeaderOf_4 : decode cX0_rowHeaderOf 4 = .ok (.iload_n 1, 1) := by decide +kernel
theorem dX0_rowHeaderOf_5 : decode cX0_rowHeaderOf 5 = .ok (.invokevirtual 15, 3) := by decide +kernel
theorem dX0_rowHeaderOf_8 : decode cX0_rowHeaderOf 8 = .ok (.istore_n 2, 1) := by decide +kernel
theorem dX0_rowHeaderOf_9 : decode cX0_rowHeaderOf 9 = .ok (.aload_n 0, 1) := by decide +kernel
theorem dX0_rowHeaderOf_10 : decode cX0_rowHeaderOf 10 = .ok (.getfield 9, 3) := by decide +kernel
theorem dX0_rowHeaderOf_13 : decode cX0_rowHeaderOf 13 = .ok (.iload_n 1, 1) := by decide +kernel
theorem dX0_rowHeaderOf_14 : decode cX0_rowHeaderOf 14 = .ok (.invokevirtual 56, 3) := by decide +kernel
theorem dX0_rowHeaderOf_17 : decode cX0_rowHeaderOf 17 = .ok (.iconst 1, 1) := by decide +kernel
theorem dX0_rowHeaderOf_18 : decode cX0_rowHeaderOf 18 = .ok (.isub, 1) := by decide +kernel
theorem dX0_rowHeaderOf_19 : decode cX0_rowHeaderOf 19 = .ok (.istore_n 3, 1) := by decide +kernel
theorem dX0_rowHeaderOf_20 : decode cX0_rowHeaderOf 20 = .ok (.iload_n 3, 1) := by decide +kernel
theorem dX0_rowHeaderOf_21 : decode cX0_rowHeaderOf 21 = .ok (.ifCond .lt 37, 3) := by decide +kernel
theorem dX0_rowHeaderOf_24 : decode cX0_rowHeaderOf 24 = .ok (.aload_n 0, 1) := by decide +kernel
theorem dX0_rowHeaderOf_25 : decode cX0_rowHeaderOf 25 = .ok (.getfield 9, 3) := by decide +kernel
theorem dX0_rowHeaderOf_28 : decode cX0_rowHeaderOf 28 = .ok (.iload_n 2, 1) := by decide +kernel
theorem dX0_rowHeaderOf_29 : decode cX0_rowHeaderOf 29 = .ok (.iload_n 3, 1) := by decide +kernel
theorem dX0_rowHeaderOf_30 : decode cX0_rowHeaderOf 30 = .ok (.invokevirtual 59, 3) := by decide +kernel
theorem dX0_rowHeaderOf_33 : decode cX0_rowHeaderOf 33 = .ok (.istore 4, 2) := by decide +kernel
theorem dX0_rowHeaderOf_35 : decode cX0_rowHeaderOf 35 = .ok (.aload_n 0, 1) := by decide +kernel
theorem dX0_rowHeaderOf_36 : decode cX0_rowHeaderOf 36 = .ok (.getfield 9, 3) := by decide +kernel
theorem dX0_rowHeaderOf_39 : decode cX0_rowHeaderOf 39 = .ok (.iload 4, 2) := by decide +kernel
theorem dX0_rowHeaderOf_41 : decode cX0_rowHeaderOf 41 = .ok (.invokevirtual 21, 3) := by decide +kernel
theorem dX0_rowHeaderOf_44 : decode cX0_rowHeaderOf 44 = .ok (.bipush 10, 2) := by decide +kernel
theorem dX0_rowHeaderOf_46 : decode cX0_rowHeaderOf 46 = .ok (.if_icmp .ne 6, 3) := by decide +kernel
theorem dX0_rowHeaderOf_49 : decode cX0_rowHeaderOf 49 = .ok (.iload 4, 2) := by decide +kernel
theorem dX0_rowHeaderOf_51 : decode cX0_rowHeaderOf 51 = .ok (.ireturn, 1) := by decide +kernel
theorem dX0_rowHeaderOf_52 : decode cX0_rowHeaderOf 52 = .ok (.iinc 3 (-1), 3) := by decide +kernel
theorem dX0_rowHeaderOf_55 : decode cX0_rowHeaderOf 55 = .ok (.goto (-35), 3) := by decide +kernel
theorem dX0_rowHeaderOf_58 : decode cX0_rowHeaderOf 58 = .ok (.iconst (-1), 1) := by decide +kernel
theorem dX0_rowHeaderOf_59 : decode cX0_rowHeaderOf 59 = .ok (.ireturn, 1) := by decide +kernel
abbrev rmX0_rowHeaderOf : Room := { frames := 3, cells := 0, slots := 0, locals := 85 }
noncomputable def fX0_rowHeaderOf_20b (n : Nat) (Sh : Sp) (M : Mm) (a0 : Nat) (a1 : Int32) (v2 : Int32) (v3 : Int32) : Option (Int32 ⊕ Int32) :=
  if v3 < 0 then
    some (Sum.inr (-1))
  else
    tF M a0 0 fun b1 =>
    chk (Sh b1 = some (.inl 4)) <|
    (fX4_kidAt n Sh M b1 v2 v3).bind fun r2 =>
    tF M a0 0 fun b3 =>
    chk (Sh b3 = some (.inl 4)) <|
    (fX4_roleOf n Sh M b3 r2).bind fun r4 =>
    if r4 = 10 then
      some (Sum.inr r2)
    else
      some (Sum.inl (v3 + (-1)))
noncomputable def fX0_rowHeaderOf_20 (n : Nat) (Sh : Sp) (M : Mm) (a0 : Nat) (a1 : Int32) (v2 : Int32) (v3 : Int32) : Option Int32 :=
  iter n (fun s => fX0_rowHeaderOf_20b n Sh M a0 a1 v2 s) v3
noncomputable def fX0_rowHeaderOf (n : Nat) (Sh : Sp) (M : Mm) (a0 : Nat) (a1 : Int32) : Option Int32 :=
  tF M a0 0 fun b5 =>
  chk (Sh b5 = some (.inl 4)) <|
  (fX4_parentOf n Sh M b5 a1).bind fun r6 =>
  tF M a0 0 fun b7 =>
  chk (Sh b7 = some (.inl 4)) <|
  (fX4_placeOf n Sh M b7 a1).bind fun r8 =>
  fX0_rowHeaderOf_20 n Sh M a0 a1 r6 (r8 - 1)
set_option maxRecDepth 100000 in
set_option maxHeartbeats 4000000 in
theorem kX0_rowHeaderOf {l : Launch} {G : Gt} {n : Nat} {Sh : Sp} {M : Mm} {a0 : Nat} {a1 : Int32} (hT : Sh a0 = some (.inl 0)) {r : Int32} (h : fX0_rowHeaderOf n Sh M a0 a1 = some r) : Ct l yX0_rowHeaderOf cX0_rowHeaderOf 5 (some .int) rmX0_rowHeaderOf G Sh M [.ref a0, .int a1] (some (.int r)) M := by
  refine Ct.of (by decide) (Nat.le_of_ble_eq_true rfl) ?_
  intro p e s m args below meth c ls C hK hX hP hS hb hlk hr hl
  replace hl : lv_has ls 5 [(0, .ref a0), (1, .int a1)] := hl
  have J20 : ∀ (v2 : Int32), ∀ (k : Nat) (v3 : Int32) (H : Heap) (locs : List Loc) (ls : Array Slot), HM G Sh M H → SS G s s.heap.size H locs → lv_has ls 5 [(0, .ref a0), (1, .int a1), (2, .int v2), (3, .int v3)] → iter k (fun s => fX0_rowHeaderOf_20b n Sh M a0 a1 v2 s) v3 = some r → W p l e rmX0_rowHeaderOf s m args below meth c H locs 0 0 (MQ below (QG G Sh M (some (.int r))) args s rmX0_rowHeaderOf.cells rmX0_rowHeaderOf.slots (AA G)) (F0 m 20 ls []) := by
    intro v2 k
    induction k with
    | zero => intro v3 H locs ls hP hS hl h; exact (iter_0 h).elim
    | succ k ih1 =>
      intro v3 H locs ls hP hS hl h
      obtain ⟨z1, h, hz1⟩ := iter_some h
      replace h : fX0_rowHeaderOf_20b n Sh M a0 a1 v2 v3 = some z1 := h
      unfold fX0_rowHeaderOf_20b at h
      refine lv_iload_n C.1 C.2.1 dX0_rowHeaderOf_20 rfl (lv_at hl 3 rfl) ?_
      refine b_lt (tgt := 58) C dX0_rowHeaderOf_21 (by decide) h (fun h => ?_) (fun h => ?_)
      · refine lv_iconst (v := (-1)) C.1 C.2.1 dX0_rowHeaderOf_58 (by decide) ?_
        have e := Option.some.inj h
        rw [← e] at hz1
        replace e := itK_inr hz1
        exact q_i C hlk hP hS hr (by rw [← e]) rfl dX0_rowHeaderOf_59
      · refine lv_aload_n C.1 C.2.1 dX0_rowHeaderOf_24 rfl (lv_at hl 0 rfl) ?_
        refine r_tF C hK hP hT cl_0 (k := 0) (by decide) wd_257 rfl dX0_rowHeaderOf_25 h (fun b1 h => ?_)
        refine lv_iload_n C.1 C.2.1 dX0_rowHeaderOf_28 rfl (lv_at hl 2 rfl) ?_
        refine lv_iload_n C.1 C.2.1 dX0_rowHeaderOf_29 rfl (lv_at hl 3 rfl) ?_
        obtain ⟨hs, h⟩ := chk_some h
        obtain ⟨r2, hc, h⟩ := bS h
        refine r_V1 C hK hX hb hP hS hl.1 (kX4_kidAt (hs) hc) hs cl_4 wd_1048 mo_X4_kidAt wd_326 wd_327 ⟨Nat.le_of_ble_eq_true rfl, Nat.le_of_ble_eq_true rfl⟩ ⟨Nat.le_of_ble_eq_true rfl, Nat.le_of_ble_eq_true rfl⟩ rfl (rest := []) rfl (Nat.le_of_ble_eq_true rfl) dX0_rowHeaderOf_30 (fun H locs hP hS => ?_)
        refine lv_istore (lv' := [(4, .int r2), (0, .ref a0), (1, .int a1), (2, .int v2), (3, .int v3)]) C.1 C.2.1 dX0_rowHeaderOf_33 hl (by decide) rfl (fun ls hl => ?_)
        refine lv_aload_n C.1 C.2.1 dX0_rowHeaderOf_35 rfl (lv_at hl 1 rfl) ?_
        refine r_tF C hK hP hT cl_0 (k := 0) (by decide) wd_257 rfl dX0_rowHeaderOf_36 h (fun b3 h => ?_)
        refine lv_iload C.1 C.2.1 dX0_rowHeaderOf_39 (lv_at hl 0 rfl) ?_
        obtain ⟨hs, h⟩ := chk_some h
        obtain ⟨r4, hc, h⟩ := bS h
        refine r_V1 C hK hX hb hP hS hl.1 (kX4_roleOf (hs) hc) hs cl_4 wd_1035 mo_X4_roleOf wd_359 wd_360 ⟨Nat.le_of_ble_eq_true rfl, Nat.le_of_ble_eq_true rfl⟩ ⟨Nat.le_of_ble_eq_true rfl, Nat.le_of_ble_eq_true rfl⟩ rfl (rest := []) rfl (Nat.le_of_ble_eq_true rfl) dX0_rowHeaderOf_41 (fun H locs hP hS => ?_)
        refine lv_bipush (v := 10) C.1 C.2.1 dX0_rowHeaderOf_44 (by decide) ?_
        refine b_ine (tgt := 52) C dX0_rowHeaderOf_46 (by decide) h (fun h => ?_) (fun h => ?_)
        · refine lv_iload C.1 C.2.1 dX0_rowHeaderOf_49 (lv_at hl 0 rfl) ?_
          have e := Option.some.inj h
          rw [← e] at hz1
          replace e := itK_inr hz1
          exact q_i C hlk hP hS hr (by rw [← e]) rfl dX0_rowHeaderOf_51
        · refine lv_iinc (v := (v3 + (-1))) (lv' := [(3, .int (v3 + (-1))), (4, .int r2), (0, .ref a0), (1, .int a1), (2, .int v2)]) C.1 C.2.1 dX0_rowHeaderOf_52 hl (k := 4) rfl rfl (by decide) rfl (fun ls hl => ?_)
          refine lv_goto (tgt := 20) C.1 C.2.1 dX0_rowHeaderOf_55 (by decide) ?_
          have e := Option.some.inj h
          rw [← e] at hz1
          exact ih1 ((v3 + (-1))) _ _ _ hP hS (lv_sub hl [2, 3, 4, 0] rfl) (itK_inl hz1)
  unfold fX0_rowHeaderOf at h
  refine lv_aload_n C.1 C.2.1 dX0_rowHeaderOf_0 rfl (lv_at hl 0 rfl) ?_
  refine r_tF C hK hP hT cl_0 (k := 0) (by decide) wd_257 rfl dX0_rowHeaderOf_1 h (fun b5 h => ?_)
  refine lv_iload_n C.1 C.2.1 dX0_rowHeaderOf_4 rfl (lv_at hl 1 rfl) ?_
  obtain ⟨hs, h⟩ := chk_some h
  obtain ⟨r6, hc, h⟩ := bS h
  refine r_V1 C hK hX hb hP hS hl.1 (kX4_parentOf (hs) hc) hs cl_4 wd_1034 mo_X4_parentOf wd_306 wd_307 ⟨Nat.le_of_ble_eq_true rfl, Nat.le_of_ble_eq_true rfl⟩ ⟨Nat.le_of_ble_eq_true rfl, Nat.le_of_ble_eq_true rfl⟩ rfl (rest := []) rfl (Nat.le_of_ble_eq_true rfl) dX0_rowHeaderOf_5 (fun H locs hP hS => ?_)
  refine lv_istore_n (lv' := [(2, .int r6), (0, .ref a0), (1, .int a1)]) C.1 C.2.1 dX0_rowHeaderOf_8 rfl hl (by decide) rfl (fun ls hl => ?_)
  refine lv_aload_n C.1 C.2.1 dX0_rowHeaderOf_9 rfl (lv_at hl 1 rfl) ?_
  refine r_tF C hK hP hT cl_0 (k := 0) (by decide) wd_257 rfl dX0_rowHeaderOf_10 h (fun b7 h => ?_)
  refine lv_iload_n C.1 C.2.1 dX0_rowHeaderOf_13 rfl (lv_at hl 2 rfl) ?_
  obtain ⟨hs, h⟩ := chk_some h
  obtain ⟨r8, hc, h⟩ := bS h
  refine r_V1 C hK hX hb hP hS hl.1 (kX4_placeOf (hs) hc) hs cl_4 wd_1091 mo_X4_placeOf wd_637 wd_638 ⟨Nat.le_of_ble_eq_true rfl, Nat.le_of_ble_eq_true rfl⟩ ⟨Nat.le_of_ble_eq_true rfl, Nat.le_of_ble_eq_true rfl⟩ rfl (rest := []) rfl (Nat.le_of_ble_eq_true rfl) dX0_rowHeaderOf_14 (fun H locs hP hS => ?_)
  refine lv_iconst (v := 1) C.1 C.2.1 dX0_rowHeaderOf_17 (by decide) ?_
  refine lv_isub C.1 C.2.1 dX0_rowHeaderOf_18 ?_
  refine lv_istore_n (lv' := [(3, .int (r8 - 1)), (2, .int r6), (0, .ref a0), (1, .int a1)]) C.1 C.2.1 dX0_rowHeaderOf_19 rfl hl (by decide) rfl (fun ls hl => ?_)
  exact J20 (r6) n ((r8 - 1)) _ _ _ hP hS (lv_sub hl [2, 3, 1, 0] rfl) h
theorem dX0_headerOf_0 : decode cX0_headerOf 0 = .ok (.aload_n 0, 1) := by decide +kernel
theorem dX0_headerOf_1 : decode cX0_headerOf 1 = .ok (.iload_n 1, 1) := by decide +kernel
theorem dX0_headerOf_2 : decode cX0_headerOf 2 = .ok (.invokevirtual 36, 3) := by decide +kernel
theorem dX0_headerOf_5 : decode cX0_headerOf 5 = .ok (.ifCond .ne 5, 3) := by decide +kernel
theorem dX0_headerOf_8 : decode cX0_headerOf 8 = .ok (.iconst (-1), 1) := by decide +kernel
theorem dX0_headerOf_9 : decode cX0_headerOf 9 = .ok (.ireturn, 1) := by decide +kernel
theorem dX0_headerOf_10 : decode cX0_headerOf 10 = .ok (.iload_n 2, 1) := by decide +kernel
theorem dX0_headerOf_11 : decode cX0_headerOf 11 = .ok (.ifCond .eq 11, 3) := by decide +kernel
theorem dX0_headerOf_14 : decode cX0_headerOf 14 = .ok (.aload_n 0, 1) := by decide +kernel
theorem dX0_headerOf_15 : decode cX0_headerOf 15 = .ok (.iload_n 1, 1) := by decide +kernel
theorem dX0_headerOf_16 : decode cX0_headerOf 16 = .ok (.invokevirtual 40, 3) := by decide +kernel
theorem dX0_headerOf_19 : decode cX0_headerOf 19 = .ok (.goto 8, 3) := by decide +kernel
theorem dX0_headerOf_22 : decode cX0_headerOf 22 = .ok (.aload_n 0, 1) := by decide +kernel
theorem dX0_headerOf_23 : decode cX0_headerOf 23 = .ok (.iload_n 1, 1) := by decide +kernel
theorem dX0_headerOf_24 : decode cX0_headerOf 24 = .ok (.invokevirtual 43, 3) := by decide +kernel
theorem dX0_headerOf_27 : decode cX0_headerOf 27 = .ok (.ireturn, 1) := by decide +kernel
abbrev rmX0_headerOf : Room := { frames := 5, cells := 0, slots := 0, locals := 136 }
noncomputable def fX0_headerOf (n : Nat) (Sh : Sp) (M : Mm) (a0 : Nat) (a1 : Int32) (a2 : Int32) : Option Int32 :=
  (fX0_isCell n Sh M a0 a1).bind fun r1 =>
  if r1 = 0 then
    some (-1)
  else
    if a2 = 0 then
      (fX0_rowHeaderOf n Sh M a0 a1).bind fun r2 =>
      some r2
    else
      (fX0_columnHeaderOf n Sh M a0 a1).bind fun r3 =>
      some r3
set_option maxRecDepth 100000 in
set_option maxHeartbeats 4000000 in
theorem kX0_headerOf {l : Launch} {G : Gt} {n : Nat} {Sh : Sp} {M : Mm} {a0 : Nat} {a1 : Int32} {a2 : Int32} (hT : Sh a0 = some (.inl 0)) {r : Int32} (h : fX0_headerOf n Sh M a0 a1 a2 = some r) : Ct l yX0_headerOf cX0_headerOf 3 (some .int) rmX0_headerOf G Sh M [.ref a0, .int a1, .int a2] (some (.int r)) M := by
  refine Ct.of (by decide) (Nat.le_of_ble_eq_true rfl) ?_
  intro p e s m args below meth c ls C hK hX hP hS hb hlk hr hl
  replace hl : lv_has ls 3 [(0, .ref a0), (1, .int a1), (2, .int a2)] := hl
  unfold fX0_headerOf at h
  refine lv_aload_n C.1 C.2.1 dX0_headerOf_0 rfl (lv_at hl 0 rfl) ?_
  refine lv_iload_n C.1 C.2.1 dX0_headerOf_1 rfl (lv_at hl 1 rfl) ?_
  obtain ⟨r1, hc, h⟩ := bS h
  refine r_V1 C hK hX hb hP hS hl.1 (kX0_isCell (hT) hc) hT cl_0 wd_1079 mo_X0_isCell wd_1031 wd_1032 ⟨Nat.le_of_ble_eq_true rfl, Nat.le_of_ble_eq_true rfl⟩ ⟨Nat.le_of_ble_eq_true rfl, Nat.le_of_ble_eq_true rfl⟩ rfl (rest := []) rfl (Nat.le_of_ble_eq_true rfl) dX0_headerOf_2 (fun H locs hP hS => ?_)
  refine b_ne (tgt := 10) C dX0_headerOf_5 (by decide) h (fun h => ?_) (fun h => ?_)
  · refine lv_iconst (v := (-1)) C.1 C.2.1 dX0_headerOf_8 (by decide) ?_
    have e := Option.some.inj h
    exact q_i C hlk hP hS hr (by rw [← e]) rfl dX0_headerOf_9
  · refine lv_iload_n C.1 C.2.1 dX0_headerOf_10 rfl (lv_at hl 2 rfl) ?_
    refine b_eq (tgt := 22) C dX0_headerOf_11 (by decide) h (fun h => ?_) (fun h => ?_)
    · refine lv_aload_n C.1 C.2.1 dX0_headerOf_22 rfl (lv_at hl 0 rfl) ?_
      refine lv_iload_n C.1 C.2.1 dX0_headerOf_23 rfl (lv_at hl 1 rfl) ?_
      obtain ⟨r2, hc, h⟩ := bS h
      refine r_V1 C hK hX hb hP hS hl.1 (kX0_rowHeaderOf (hT) hc) hT cl_0 wd_1087 mo_X0_rowHeaderOf wd_1089 wd_20 ⟨Nat.le_of_ble_eq_true rfl, Nat.le_of_ble_eq_true rfl⟩ ⟨Nat.le_of_ble_eq_true rfl, Nat.le_of_ble_eq_true rfl⟩ rfl (rest := []) rfl (Nat.le_of_ble_eq_true rfl) dX0_headerOf_24 (fun H locs hP hS => ?_)
      have e := Option.some.inj h
      exact q_i C hlk hP hS hr (by rw [← e]) rfl dX0_headerOf_27
    · refine lv_aload_n C.1 C.2.1 dX0_headerOf_14 rfl (lv_at hl 0 rfl) ?_
      refine lv_iload_n C.1 C.2.1 dX0_headerOf_15 rfl (lv_at hl 1 rfl) ?_
      obtain ⟨r3, hc, h⟩ := bS h
      refine r_V1 C hK hX hb hP hS hl.1 (kX0_columnHeaderOf (hT) hc) hT cl_0 wd_1080 mo_X0_columnHeaderOf wd_1082 wd_19 ⟨Nat.le_of_ble_eq_true rfl, Nat.le_of_ble_eq_true rfl⟩ ⟨Nat.le_of_ble_eq_true rfl, Nat.le_of_ble_eq_true rfl⟩ rfl (rest := []) rfl (Nat.le_of_ble_eq_true rfl) dX0_headerOf_16 (fun H locs hP hS => ?_)
      refine lv_goto (tgt := 27) C.1 C.2.1 dX0_headerOf_19 (by decide) ?_
      have e := Option.some.inj h
      exact q_i C hlk hP hS hr (by rw [← e]) rfl dX0_headerOf_27
theorem dX0_beside_0 : decode cX0_beside 0 = .ok (.aload_n 0, 1) := by decide +kernel
theorem dX0_beside_1 : decode cX0_beside 1 = .ok (.iload_n 1, 1) := by decide +kernel
theorem dX0_beside_2 : decode cX0_beside 2 = .ok (.invokevirtual 36, 3) := by decide +kernel
theorem dX0_beside_5 : decode cX0_beside 5 = .ok (.ifCond .ne 5, 3) := by decide +kernel
theorem dX0_beside_8 : decode cX0_beside 8 = .ok (.iconst (-1), 1) := by decide +kernel
theorem dX0_beside_9 : decode cX0_beside 9 = .ok (.ireturn, 1) := by decide +kernel
theorem dX0_beside_10 : decode cX0_beside 10 = .ok (.aload_n 0, 1) := by decide +kernel
theorem dX0_beside_11 : decode cX0_beside 11 = .ok (.getfield 9, 3) := by decide +kernel
theorem dX0_beside_14 : decode cX0_beside 14 = .ok (.aload_n 0, 1) := by decide +kernel
theorem dX0_beside_15 : decode cX0_beside 15 = .ok (.getfield 9, 3) := by decide +kernel
theorem dX0_beside_18 : decode cX0_beside 18 = .ok (.iload_n 1, 1) := by decide +kernel
theorem dX0_beside_19 : decode cX0_beside 19 = .ok (.invokevirtual 15, 3) := by decide +kernel
theorem dX0_beside_22 : decode cX0_beside 22 = .ok (.invokevirtual 15, 3) := by decide +kernel
theorem dX0_beside_25 : decode cX0_beside 25 = .ok (.istore_n 3, 1) := by decide +kernel
theorem dX0_beside_26 : decode cX0_beside 26 = .ok (.aload_n 0, 1) := by decide +kernel
theorem dX0_beside_27 : decode cX0_beside 27 = .ok (.iload_n 1, 1) := by decide +kernel
theorem dX0_beside_28 : decode cX0_beside 28 = .ok (.invokevirtual 46, 3) := by decide +kernel
theorem dX0_beside_31 : decode cX0_beside 31 = .ok (.istore 4, 2) := by decide +kernel
theorem dX0_beside_33 : decode cX0_beside 33 = .ok (.aload_n 0, 1) := by decide +kernel
theorem dX0_beside_34 : decode cX0_beside 34 = .ok (.iload_n 1, 1) := by decide +kernel
theorem dX0_beside_35 : decode cX0_beside 35 = .ok (.invokevirtual 49, 3) := by decide +kernel
theorem dX0_beside_38 : decode cX0_beside 38 = .ok (.istore 5, 2) := by decide +kernel
theorem dX0_beside_40 : decode cX0_beside 40 = .ok (.iload_n 2, 1) := by decide +kernel
theorem dX0_beside_41 : decode cX0_beside 41 = .ok (.tableswitch 63 0 2 #[27, 39, 51], 27) := by decide +kernel
theorem dX0_beside_68 : decode cX0_beside 68 = .ok (.aload_n 0, 1) := by decide +kernel
theorem dX0_beside_69 : decode cX0_beside 69 = .ok (.iload_n 3, 1) := by decide +kernel
theorem dX0_beside_70 : decode cX0_beside 70 = .ok (.iload 4, 2) := by decide +kernel
theorem dX0_beside_72 : decode cX0_beside 72 = .ok (.iload 5, 2) := by decide +kernel
theorem dX0_beside_74 : decode cX0_beside 74 = .ok (.iconst 1, 1) := by decide +kernel
theorem dX0_beside_75 : decode cX0_beside 75 = .ok (.isub, 1) := by decide +kernel
theorem dX0_beside_76 : decode cX0_beside 76 = .ok (.invokevirtual 52, 3) := by decide +kernel
theorem dX0_beside_79 : decode cX0_beside 79 = .ok (.ireturn, 1) := by decide +kernel
theorem dX0_beside_80 : decode cX0_beside 80 = .ok (.aload_n 0, 1) := by decide +kernel
theorem dX0_beside_81 : decode cX0_beside 81 = .ok (.iload_n 3, 1) := by decide +kernel
theorem dX0_beside_82 : decode cX0_beside 82 = .ok (.iload 4, 2) := by decide +kernel
theorem dX0_beside_84 : decode cX0_beside 84 = .ok (.iload 5, 2) := by decide +kernel
theorem dX0_beside_86 : decode cX0_beside 86 = .ok (.iconst 1, 1) := by decide +kernel
theorem dX0_beside_87 : decode cX0_beside 87 = .ok (.iadd, 1) := by decide +kernel
theorem dX0_beside_88 : decode cX0_beside 88 = .ok (.invokevirtual 52, 3) := by decide +kernel
theorem dX0_beside_91 : decode cX0_beside 91 = .ok (.ireturn, 1) := by decide +kernel
theorem dX0_beside_92 : decode cX0_beside 92 = .ok (.aload_n 0, 1) := by decide +kernel
theorem dX0_beside_93 : decode cX0_beside 93 = .ok (.iload_n 3, 1) := by decide +kernel
theorem dX0_beside_94 : decode cX0_beside 94 = .ok (.iload 4, 2) := by decide +kernel
theorem dX0_beside_96 : decode cX0_beside 96 = .ok (.iconst 1, 1) := by decide +kernel
theorem dX0_beside_97 : decode cX0_beside 97 = .ok (.isub, 1) := by decide +kernel
theorem dX0_beside_98 : decode cX0_beside 98 = .ok (.iload 5, 2) := by decide +kernel
theorem dX0_beside_100 : decode cX0_beside 100 = .ok (.invokevirtual 52, 3) := by decide +kernel
theorem dX0_beside_103 : decode cX0_beside 103 = .ok (.ireturn, 1) := by decide +kernel
theorem dX0_beside_104 : decode cX0_beside 104 = .ok (.aload_n 0, 1) := by decide +kernel
theorem dX0_beside_105 : decode cX0_beside 105 = .ok (.iload_n 3, 1) := by decide +kernel
theorem dX0_beside_106 : decode cX0_beside 106 = .ok (.iload 4, 2) := by decide +kernel
theorem dX0_beside_108 : decode cX0_beside 108 = .ok (.iconst 1, 1) := by decide +kernel
theorem dX0_beside_109 : decode cX0_beside 109 = .ok (.iadd, 1) := by decide +kernel
theorem dX0_beside_110 : decode cX0_beside 110 = .ok (.iload 5, 2) := by decide +kernel
theorem dX0_beside_112 : decode cX0_beside 112 = .ok (.invokevirtual 52, 3) := by decide +kernel
theorem dX0_beside_115 : decode cX0_beside 115 = .ok (.ireturn, 1) := by decide +kernel
abbrev rmX0_beside : Room := { frames := 4, cells := 0, slots := 0, locals := 111 }
noncomputable def fX0_beside (n : Nat) (Sh : Sp) (M : Mm) (a0 : Nat) (a1 : Int32) (a2 : Int32) : Option Int32 :=
  (fX0_isCell n Sh M a0 a1).bind fun r1 =>
  if r1 = 0 then
    some (-1)
  else
    tF M a0 0 fun b2 =>
    tF M a0 0 fun b3 =>
    chk (Sh b3 = some (.inl 4)) <|
    (fX4_parentOf n Sh M b3 a1).bind fun r4 =>
    chk (Sh b2 = some (.inl 4)) <|
    (fX4_parentOf n Sh M b2 r4).bind fun r5 =>
    (fX0_rowOf n Sh M a0 a1).bind fun r6 =>
    (fX0_columnOf n Sh M a0 a1).bind fun r7 =>
    if a2 = 0 then
      (fX0_cellIn n Sh M a0 r5 r6 (r7 - 1)).bind fun r8 =>
      some r8
    else if a2 = 1 then
      (fX0_cellIn n Sh M a0 r5 r6 (r7 + 1)).bind fun r9 =>
      some r9
    else if a2 = 2 then
      (fX0_cellIn n Sh M a0 r5 (r6 - 1) r7).bind fun r10 =>
      some r10
    else
      (fX0_cellIn n Sh M a0 r5 (r6 + 1) r7).bind fun r11 =>
      some r11
set_option maxRecDepth 100000 in
set_option maxHeartbeats 4000000 in
theorem kX0_beside {l : Launch} {G : Gt} {n : Nat} {Sh : Sp} {M : Mm} {a0 : Nat} {a1 : Int32} {a2 : Int32} (hT : Sh a0 = some (.inl 0)) {r : Int32} (h : fX0_beside n Sh M a0 a1 a2 = some r) : Ct l yX0_beside cX0_beside 6 (some .int) rmX0_beside G Sh M [.ref a0, .int a1, .int a2] (some (.int r)) M := by
  refine Ct.of (by decide) (Nat.le_of_ble_eq_true rfl) ?_
  intro p e s m args below meth c ls C hK hX hP hS hb hlk hr hl
  replace hl : lv_has ls 6 [(0, .ref a0), (1, .int a1), (2, .int a2)] := hl
  unfold fX0_beside at h
  refine lv_aload_n C.1 C.2.1 dX0_beside_0 rfl (lv_at hl 0 rfl) ?_
  refine lv_iload_n C.1 C.2.1 dX0_beside_1 rfl (lv_at hl 1 rfl) ?_
  obtain ⟨r1, hc, h⟩ := bS h
  refine r_V1 C hK hX hb hP hS hl.1 (kX0_isCell (hT) hc) hT cl_0 wd_1079 mo_X0_isCell wd_1031 wd_1032 ⟨Nat.le_of_ble_eq_true rfl, Nat.le_of_ble_eq_true rfl⟩ ⟨Nat.le_of_ble_eq_true rfl, Nat.le_of_ble_eq_true rfl⟩ rfl (rest := []) rfl (Nat.le_of_ble_eq_true rfl) dX0_beside_2 (fun H locs hP hS => ?_)
  refine b_ne (tgt := 10) C dX0_beside_5 (by decide) h (fun h => ?_) (fun h => ?_)
  · refine lv_iconst (v := (-1)) C.1 C.2.1 dX0_beside_8 (by decide) ?_
    have e := Option.some.inj h
    exact q_i C hlk hP hS hr (by rw [← e]) rfl dX0_beside_9
  · refine lv_aload_n C.1 C.2.1 dX0_beside_10 rfl (lv_at hl 0 rfl) ?_
    refine r_tF C hK hP hT cl_0 (k := 0) (by decide) wd_257 rfl dX0_beside_11 h (fun b2 h => ?_)
    refine lv_aload_n C.1 C.2.1 dX0_beside_14 rfl (lv_at hl 0 rfl) ?_
    refine r_tF C hK hP hT cl_0 (k := 0) (by decide) wd_257 rfl dX0_beside_15 h (fun b3 h => ?_)
    refine lv_iload_n C.1 C.2.1 dX0_beside_18 rfl (lv_at hl 1 rfl) ?_
    obtain ⟨hs, h⟩ := chk_some h
    obtain ⟨r4, hc, h⟩ := bS h
    refine r_V1 C hK hX hb hP hS hl.1 (kX4_parentOf (hs) hc) hs cl_4 wd_1034 mo_X4_parentOf wd_306 wd_307 ⟨Nat.le_of_ble_eq_true rfl, Nat.le_of_ble_eq_true rfl⟩ ⟨Nat.le_of_ble_eq_true rfl, Nat.le_of_ble_eq_true rfl⟩ rfl (rest := [.ref b2]) rfl (Nat.le_of_ble_eq_true rfl) dX0_beside_19 (fun H locs hP hS => ?_)
    obtain ⟨hs, h⟩ := chk_some h
    obtain ⟨r5, hc, h⟩ := bS h
    refine r_V1 C hK hX hb hP hS hl.1 (kX4_parentOf (hs) hc) hs cl_4 wd_1034 mo_X4_parentOf wd_306 wd_307 ⟨Nat.le_of_ble_eq_true rfl, Nat.le_of_ble_eq_true rfl⟩ ⟨Nat.le_of_ble_eq_true rfl, Nat.le_of_ble_eq_true rfl⟩ rfl (rest := []) rfl (Nat.le_of_ble_eq_true rfl) dX0_beside_22 (fun H locs hP hS => ?_)
    refine lv_istore_n (lv' := [(3, .int r5), (0, .ref a0), (1, .int a1), (2, .int a2)]) C.1 C.2.1 dX0_beside_25 rfl hl (by decide) rfl (fun ls hl => ?_)
    refine lv_aload_n C.1 C.2.1 dX0_beside_26 rfl (lv_at hl 1 rfl) ?_
    refine lv_iload_n C.1 C.2.1 dX0_beside_27 rfl (lv_at hl 2 rfl) ?_
    obtain ⟨r6, hc, h⟩ := bS h
    refine r_V1 C hK hX hb hP hS hl.1 (kX0_rowOf (hT) hc) hT cl_0 wd_1085 mo_X0_rowOf wd_1050 wd_1051 ⟨Nat.le_of_ble_eq_true rfl, Nat.le_of_ble_eq_true rfl⟩ ⟨Nat.le_of_ble_eq_true rfl, Nat.le_of_ble_eq_true rfl⟩ rfl (rest := []) rfl (Nat.le_of_ble_eq_true rfl) dX0_beside_28 (fun H locs hP hS => ?_)
    refine lv_istore (lv' := [(4, .int r6), (3, .int r5), (0, .ref a0), (1, .int a1), (2, .int a2)]) C.1 C.2.1 dX0_beside_31 hl (by decide) rfl (fun ls hl => ?_)
    refine lv_aload_n C.1 C.2.1 dX0_beside_33 rfl (lv_at hl 2 rfl) ?_
    refine lv_iload_n C.1 C.2.1 dX0_beside_34 rfl (lv_at hl 3 rfl) ?_
    obtain ⟨r7, hc, h⟩ := bS h
    refine r_V1 C hK hX hb hP hS hl.1 (kX0_columnOf (hT) hc) hT cl_0 wd_1084 mo_X0_columnOf wd_1040 wd_1041 ⟨Nat.le_of_ble_eq_true rfl, Nat.le_of_ble_eq_true rfl⟩ ⟨Nat.le_of_ble_eq_true rfl, Nat.le_of_ble_eq_true rfl⟩ rfl (rest := []) rfl (Nat.le_of_ble_eq_true rfl) dX0_beside_35 (fun H locs hP hS => ?_)
    refine lv_istore (lv' := [(5, .int r7), (4, .int r6), (3, .int r5), (0, .ref a0), (1, .int a1), (2, .int a2)]) C.1 C.2.1 dX0_beside_38 hl (by decide) rfl (fun ls hl => ?_)
    refine lv_iload_n C.1 C.2.1 dX0_beside_40 rfl (lv_at hl 5 rfl) ?_
    by_cases q0 : a2 = 0
    · rw [if_pos q0] at h
      refine lv_tableIn (off := 27) (tgt := 68) C.1 C.2.1 dX0_beside_41 (by rw [q0]; decide) (by rw [q0]; decide) (by rw [q0]; decide) (by decide) ?_
      refine lv_aload_n C.1 C.2.1 dX0_beside_68 rfl (lv_at hl 3 rfl) ?_
      refine lv_iload_n C.1 C.2.1 dX0_beside_69 rfl (lv_at hl 2 rfl) ?_
      refine lv_iload C.1 C.2.1 dX0_beside_70 (lv_at hl 1 rfl) ?_
      refine lv_iload C.1 C.2.1 dX0_beside_72 (lv_at hl 0 rfl) ?_
      refine lv_iconst (v := 1) C.1 C.2.1 dX0_beside_74 (by decide) ?_
      refine lv_isub C.1 C.2.1 dX0_beside_75 ?_
      obtain ⟨r8, hc, h⟩ := bS h
      refine r_V1 C hK hX hb hP hS hl.1 (kX0_cellIn (hT) hc) hT cl_0 wd_1086 mo_X0_cellIn wd_1061 wd_1062 ⟨Nat.le_of_ble_eq_true rfl, Nat.le_of_ble_eq_true rfl⟩ ⟨Nat.le_of_ble_eq_true rfl, Nat.le_of_ble_eq_true rfl⟩ rfl (rest := []) rfl (Nat.le_of_ble_eq_true rfl) dX0_beside_76 (fun H locs hP hS => ?_)
      have e := Option.some.inj h
      exact q_i C hlk hP hS hr (by rw [← e]) rfl dX0_beside_79
    rw [if_neg q0] at h
    by_cases q1 : a2 = 1
    · rw [if_pos q1] at h
      refine lv_tableIn (off := 39) (tgt := 80) C.1 C.2.1 dX0_beside_41 (by rw [q1]; decide) (by rw [q1]; decide) (by rw [q1]; decide) (by decide) ?_
      refine lv_aload_n C.1 C.2.1 dX0_beside_80 rfl (lv_at hl 3 rfl) ?_
      refine lv_iload_n C.1 C.2.1 dX0_beside_81 rfl (lv_at hl 2 rfl) ?_
      refine lv_iload C.1 C.2.1 dX0_beside_82 (lv_at hl 1 rfl) ?_
      refine lv_iload C.1 C.2.1 dX0_beside_84 (lv_at hl 0 rfl) ?_
      refine lv_iconst (v := 1) C.1 C.2.1 dX0_beside_86 (by decide) ?_
      refine lv_iadd C.1 C.2.1 dX0_beside_87 ?_
      obtain ⟨r9, hc, h⟩ := bS h
      refine r_V1 C hK hX hb hP hS hl.1 (kX0_cellIn (hT) hc) hT cl_0 wd_1086 mo_X0_cellIn wd_1061 wd_1062 ⟨Nat.le_of_ble_eq_true rfl, Nat.le_of_ble_eq_true rfl⟩ ⟨Nat.le_of_ble_eq_true rfl, Nat.le_of_ble_eq_true rfl⟩ rfl (rest := []) rfl (Nat.le_of_ble_eq_true rfl) dX0_beside_88 (fun H locs hP hS => ?_)
      have e := Option.some.inj h
      exact q_i C hlk hP hS hr (by rw [← e]) rfl dX0_beside_91
    rw [if_neg q1] at h
    by_cases q2 : a2 = 2
    · rw [if_pos q2] at h
      refine lv_tableIn (off := 51) (tgt := 92) C.1 C.2.1 dX0_beside_41 (by rw [q2]; decide) (by rw [q2]; decide) (by rw [q2]; decide) (by decide) ?_
      refine lv_aload_n C.1 C.2.1 dX0_beside_92 rfl (lv_at hl 3 rfl) ?_
      refine lv_iload_n C.1 C.2.1 dX0_beside_93 rfl (lv_at hl 2 rfl) ?_
      refine lv_iload C.1 C.2.1 dX0_beside_94 (lv_at hl 1 rfl) ?_
      refine lv_iconst (v := 1) C.1 C.2.1 dX0_beside_96 (by decide) ?_
      refine lv_isub C.1 C.2.1 dX0_beside_97 ?_
      refine lv_iload C.1 C.2.1 dX0_beside_98 (lv_at hl 0 rfl) ?_
      obtain ⟨r10, hc, h⟩ := bS h
      refine r_V1 C hK hX hb hP hS hl.1 (kX0_cellIn (hT) hc) hT cl_0 wd_1086 mo_X0_cellIn wd_1061 wd_1062 ⟨Nat.le_of_ble_eq_true rfl, Nat.le_of_ble_eq_true rfl⟩ ⟨Nat.le_of_ble_eq_true rfl, Nat.le_of_ble_eq_true rfl⟩ rfl (rest := []) rfl (Nat.le_of_ble_eq_true rfl) dX0_beside_100 (fun H locs hP hS => ?_)
      have e := Option.some.inj h
      exact q_i C hlk hP hS hr (by rw [← e]) rfl dX0_beside_103
    rw [if_neg q2] at h
    refine lv_tableOut (tgt := 104) C.1 C.2.1 dX0_beside_41 (sw_out (x := a2) (lo := 0) (n := 3) (by decide) (fun j hj => match j, hj with | 0, _ => fun hx => q0 (hx.trans (by decide)) | 1, _ => fun hx => q1 (hx.trans (by decide)) | 2, _ => fun hx => q2 (hx.trans (by decide)) | (k + 3), hj => absurd hj (by omega))) (by decide) ?_
    refine lv_aload_n C.1 C.2.1 dX0_beside_104 rfl (lv_at hl 3 rfl) ?_
    refine lv_iload_n C.1 C.2.1 dX0_beside_105 rfl (lv_at hl 2 rfl) ?_
    refine lv_iload C.1 C.2.1 dX0_beside_106 (lv_at hl 1 rfl) ?_
    refine lv_iconst (v := 1) C.1 C.2.1 dX0_beside_108 (by decide) ?_
    refine lv_iadd C.1 C.2.1 dX0_beside_109 ?_
    refine lv_iload C.1 C.2.1 dX0_beside_110 (lv_at hl 0 rfl) ?_
    obtain ⟨r11, hc, h⟩ := bS h
    refine r_V1 C hK hX hb hP hS hl.1 (kX0_cellIn (hT) hc) hT cl_0 wd_1086 mo_X0_cellIn wd_1061 wd_1062 ⟨Nat.le_of_ble_eq_true rfl, Nat.le_of_ble_eq_true rfl⟩ ⟨Nat.le_of_ble_eq_true rfl, Nat.le_of_ble_eq_true rfl⟩ rfl (rest := []) rfl (Nat.le_of_ble_eq_true rfl) dX0_beside_112 (fun H locs hP hS => ?_)
    have e := Option.some.inj h
    exact q_i C hlk hP hS hr (by rw [← e]) rfl dX0_beside_115
theorem dX1_copyFrom_0 : decode cX1_copyFrom 0 = .ok (.aload_n 0, 1) := by decide +kernel
theorem dX1_copyFrom_1 : decode cX1_copyFrom 1 = .ok (.aload_n 1, 1) := by decide +kernel
theorem dX1_copyFrom_2 : decode cX1_copyFrom 2 = .ok (.getfield 9, 3) := by decide +kernel
theorem dX1_copyFrom_5 : decode cX1_copyFrom 5 = .ok (.putfield 9, 3) := by decide +kernel
theorem dX1_copyFrom_8 : decode cX1_copyFrom 8 = .ok (.aload_n 1, 1) := by decide +kernel
theorem dX1_copyFrom_9 : decode cX1_copyFrom 9 = .ok (.getfield 15, 3) := by decide +kernel
theorem dX1_copyFrom_12 : decode cX1_copyFrom 12 = .ok (.iconst 0, 1) := by decide +kernel
theorem dX1_copyFrom_13 : decode cX1_copyFrom 13 = .ok (.aload_n 0, 1) := by decide +kernel
theorem dX1_copyFrom_14 : decode cX1_copyFrom 14 = .ok (.getfield 15, 3) := by decide +kernel
theorem dX1_copyFrom_17 : decode cX1_copyFrom 17 = .ok (.iconst 0, 1) := by decide +kernel
theorem dX1_copyFrom_18 : decode cX1_copyFrom 18 = .ok (.bipush 10, 2) := by decide +kernel
theorem dX1_copyFrom_20 : decode cX1_copyFrom 20 = .ok (.invokestatic 34, 3) := by decide +kernel
theorem dX1_copyFrom_23 : decode cX1_copyFrom 23 = .ok (.aload_n 1, 1) := by decide +kernel
theorem dX1_copyFrom_24 : decode cX1_copyFrom 24 = .ok (.getfield 19, 3) := by decide +kernel
theorem dX1_copyFrom_27 : decode cX1_copyFrom 27 = .ok (.iconst 0, 1) := by decide +kernel
theorem dX1_copyFrom_28 : decode cX1_copyFrom 28 = .ok (.aload_n 0, 1) := by decide +kernel
theorem dX1_copyFrom_29 : decode cX1_copyFrom 29 = .ok (.getfield 19, 3) := by decide +kernel
theorem dX1_copyFrom_32 : decode cX1_copyFrom 32 = .ok (.iconst 0, 1) := by decide +kernel
theorem dX1_copyFrom_33 : decode cX1_copyFrom 33 = .ok (.bipush 10, 2) := by decide +kernel
theorem dX1_copyFrom_35 : decode cX1_copyFrom 35 = .ok (.invokestatic 34, 3) := by decide +kernel
theorem dX1_copyFrom_38 : decode cX1_copyFrom 38 = .ok (.aload_n 1, 1) := by decide +kernel
theorem dX1_copyFrom_39 : decode cX1_copyFrom 39 = .ok (.getfield 22, 3) := by decide +kernel
theorem dX1_copyFrom_42 : decode cX1_copyFrom 42 = .ok (.iconst 0, 1) := by decide +kernel
theorem dX1_copyFrom_43 : decode cX1_copyFrom 43 = .ok (.aload_n 0, 1) := by decide +kernel
theorem dX1_copyFrom_44 : decode cX1_copyFrom 44 = .ok (.getfield 22, 3) := by decide +kernel
theorem dX1_copyFrom_47 : decode cX1_copyFrom 47 = .ok (.iconst 0, 1) := by decide +kernel
theorem dX1_copyFrom_48 : decode cX1_copyFrom 48 = .ok (.bipush 10, 2) := by decide +kernel
theorem dX1_copyFrom_50 : decode cX1_copyFrom 50 = .ok (.invokestatic 34, 3) := by decide +kernel
theorem dX1_copyFrom_53 : decode cX1_copyFrom 53 = .ok (.iconst 0, 1) := by decide +kernel
theorem dX1_copyFrom_54 : decode cX1_copyFrom 54 = .ok (.istore_n 2, 1) := by decide +kernel
theorem dX1_copyFrom_55 : decode cX1_copyFrom 55 = .ok (.iload_n 2, 1) := by decide +kernel
theorem dX1_copyFrom_56 : decode cX1_copyFrom 56 = .ok (.aload_n 0, 1) := by decide +kernel
theorem dX1_copyFrom_57 : decode cX1_copyFrom 57 = .ok (.getfield 9, 3) := by decide +kernel
theorem dX1_copyFrom_60 : decode cX1_copyFrom 60 = .ok (.if_icmp .ge 30, 3) := by decide +kernel
theorem dX1_copyFrom_63 : decode cX1_copyFrom 63 = .ok (.iload_n 2, 1) := by decide +kernel
theorem dX1_copyFrom_64 : decode cX1_copyFrom 64 = .ok (.bipush 10, 2) := by decide +kernel
theorem dX1_copyFrom_66 : decode cX1_copyFrom 66 = .ok (.if_icmp .ge 24, 3) := by decide +kernel
theorem dX1_copyFrom_69 : decode cX1_copyFrom 69 = .ok (.aload_n 0, 1) := by decide +kernel
theorem dX1_copyFrom_70 : decode cX1_copyFrom 70 = .ok (.getfield 27, 3) := by decide +kernel
theorem dX1_copyFrom_73 : decode cX1_copyFrom 73 = .ok (.iload_n 2, 1) := by decide +kernel
theorem dX1_copyFrom_74 : decode cX1_copyFrom 74 = .ok (.aaload, 1) := by decide +kernel
theorem dX1_copyFrom_75 : decode cX1_copyFrom 75 = .ok (.aload_n 1, 1) := by decide +kernel
theorem dX1_copyFrom_76 : decode cX1_copyFrom 76 = .ok (.getfield 27, 3) := by decide +kernel
theorem dX1_copyFrom_79 : decode cX1_copyFrom 79 = .ok (.iload_n 2, 1) := by decide +kernel
theorem dX1_copyFrom_80 : decode cX1_copyFrom 80 = .ok (.aaload, 1) := by decide +kernel
theorem dX1_copyFrom_81 : decode cX1_copyFrom 81 = .ok (.invokevirtual 40, 3) := by decide +kernel
theorem dX1_copyFrom_84 : decode cX1_copyFrom 84 = .ok (.iinc 2 1, 3) := by decide +kernel
theorem dX1_copyFrom_87 : decode cX1_copyFrom 87 = .ok (.goto (-32), 3) := by decide +kernel
theorem dX1_copyFrom_90 : decode cX1_copyFrom 90 = .ok (.return_, 1) := by decide +kernel
abbrev rmX1_copyFrom : Room := { frames := 2, cells := 0, slots := 0, locals := 61 }
noncomputable def fX1_copyFrom_55b (n : Nat) (Sh : Sp) (a0 : Nat) (a1 : Nat) (M : Mm) (v2 : Int32) : Option ((Int32 × Mm) ⊕ Mm) :=
  tI M a0 0 fun x1 =>
  if v2 < x1 then
    if v2 < 10 then
      tF M a0 4 fun b2 =>
      aR Sh M b2 4 v2 fun b3 =>
      gF Sh M a1 1 4 fun b4 =>
      aR Sh M b4 4 v2 fun b5 =>
      chk (Sh b3 = some (.inl 5)) <|
      (fX5_become n Sh M b3 b5).bind fun r6 =>
      some (Sum.inl ((v2 + 1), r6))
    else
      some (Sum.inr M)
  else
    some (Sum.inr M)
noncomputable def fX1_copyFrom_55 (n : Nat) (Sh : Sp) (a0 : Nat) (a1 : Nat) (M : Mm) (v2 : Int32) : Option Mm :=
  iter n (fun s => fX1_copyFrom_55b n Sh a0 a1 s.2 s.1) (v2, M)
noncomputable def fX1_copyFrom (n : Nat) (Sh : Sp) (M : Mm) (a0 : Nat) (a1 : Nat) : Option Mm :=
  gI Sh M a1 1 0 fun x7 =>
  qI M a0 0 x7 fun M8 =>
  gF Sh M8 a1 1 1 fun b9 =>
  tF M8 a0 1 fun b10 =>
  aC Sh M8 0 b9 0 b10 0 10 fun M11 =>
  gF Sh M11 a1 1 2 fun b12 =>
  tF M11 a0 2 fun b13 =>
  aC Sh M11 0 b12 0 b13 0 10 fun M14 =>
  gF Sh M14 a1 1 3 fun b15 =>
  tF M14 a0 3 fun b16 =>
  aC Sh M14 0 b15 0 b16 0 10 fun M17 =>
  fX1_copyFrom_55 n Sh a0 a1 M17 0
set_option maxRecDepth 100000 in
set_option maxHeartbeats 4000000 in
theorem kX1_copyFrom {l : Launch} {G : Gt} {n : Nat} {Sh : Sp} {M : Mm} {a0 : Nat} {a1 : Nat} (hT : Sh a0 = some (.inl 1)) {r : Mm} (h : fX1_copyFrom n Sh M a0 a1 = some r) : Ct l yX1_copyFrom cX1_copyFrom 3 none rmX1_copyFrom G Sh M [.ref a0, .ref a1] none r := by
  refine Ct.of (by decide) (Nat.le_of_ble_eq_true rfl) ?_
  intro p e s m args below meth c ls C hK hX hP hS hb hlk hr hl
  replace hl : lv_has ls 3 [(0, .ref a0), (1, .ref a1)] := hl
  have J55 : ∀ (k : Nat) (v2 : Int32) (M : Mm) (H : Heap) (locs : List Loc) (ls : Array Slot), HM G Sh M H → SS G s s.heap.size H locs → lv_has ls 3 [(0, .ref a0), (1, .ref a1), (2, .int v2)] → iter k (fun s => fX1_copyFrom_55b n Sh a0 a1 s.2 s.1) (v2, M) = some r → W p l e rmX1_copyFrom s m args below meth c H locs 0 0 (MQ below (QG G Sh r none) args s rmX1_copyFrom.cells rmX1_copyFrom.slots (AA G)) (F0 m 55 ls []) := by
    intro k
    induction k with
    | zero => intro v2 M H locs ls hP hS hl h; exact (iter_0 h).elim
    | succ k ih1 =>
      intro v2 M H locs ls hP hS hl h
      obtain ⟨z1, h, hz1⟩ := iter_some h
      replace h : fX1_copyFrom_55b n Sh a0 a1 M v2 = some z1 := h
      unfold fX1_copyFrom_55b at h
      refine lv_iload_n C.1 C.2.1 dX1_copyFrom_55 rfl (lv_at hl 2 rfl) ?_
      refine lv_aload_n C.1 C.2.1 dX1_copyFrom_56 rfl (lv_at hl 0 rfl) ?_
      refine r_tI C hK hP hT cl_1 (k := 0) (by decide) wd_189 rfl dX1_copyFrom_57 h (fun x1 h => ?_)
      refine b_ige (tgt := 90) C dX1_copyFrom_60 (by decide) h (fun h => ?_) (fun h => ?_)
      · refine lv_iload_n C.1 C.2.1 dX1_copyFrom_63 rfl (lv_at hl 2 rfl) ?_
        refine lv_bipush (v := 10) C.1 C.2.1 dX1_copyFrom_64 (by decide) ?_
        refine b_ige (tgt := 90) C dX1_copyFrom_66 (by decide) h (fun h => ?_) (fun h => ?_)
        · refine lv_aload_n C.1 C.2.1 dX1_copyFrom_69 rfl (lv_at hl 0 rfl) ?_
          refine r_tF C hK hP hT cl_1 (k := 4) (by decide) wd_194 rfl dX1_copyFrom_70 h (fun b2 h => ?_)
          refine lv_iload_n C.1 C.2.1 dX1_copyFrom_73 rfl (lv_at hl 2 rfl) ?_
          refine r_aR4 C hK hP dX1_copyFrom_74 h (fun b3 h => ?_)
          refine lv_aload_n C.1 C.2.1 dX1_copyFrom_75 rfl (lv_at hl 1 rfl) ?_
          refine r_gF C hK hP cl_1 (k := 4) (by decide) wd_194 rfl dX1_copyFrom_76 h (fun b4 h => ?_)
          refine lv_iload_n C.1 C.2.1 dX1_copyFrom_79 rfl (lv_at hl 2 rfl) ?_
          refine r_aR4 C hK hP dX1_copyFrom_80 h (fun b5 h => ?_)
          obtain ⟨hs, h⟩ := chk_some h
          obtain ⟨r6, hc, h⟩ := bS h
          refine r_V0 C hK hX hb hP hS hl.1 (kX5_become (hs) hc) hs cl_5 wd_422 mo_X5_become wd_410 wd_411 ⟨Nat.le_of_ble_eq_true rfl, Nat.le_of_ble_eq_true rfl⟩ ⟨Nat.le_of_ble_eq_true rfl, Nat.le_of_ble_eq_true rfl⟩ rfl (rest := []) rfl (Nat.le_of_ble_eq_true rfl) dX1_copyFrom_81 (fun H locs hP hS => ?_)
          refine lv_iinc (v := (v2 + 1)) (lv' := [(2, .int (v2 + 1)), (0, .ref a0), (1, .ref a1)]) C.1 C.2.1 dX1_copyFrom_84 hl (k := 2) rfl rfl (by decide) rfl (fun ls hl => ?_)
          refine lv_goto (tgt := 55) C.1 C.2.1 dX1_copyFrom_87 (by decide) ?_
          have e := Option.some.inj h
          rw [← e] at hz1
          exact ih1 ((v2 + 1)) r6 _ _ _ hP hS (lv_sub hl [1, 2, 0] rfl) (itK_inl hz1)
        · have e := Option.some.inj h
          rw [← e] at hz1
          replace e := itK_inr hz1
          exact q_v C hlk hP hS hr rfl e.symm dX1_copyFrom_90
      · have e := Option.some.inj h
        rw [← e] at hz1
        replace e := itK_inr hz1
        exact q_v C hlk hP hS hr rfl e.symm dX1_copyFrom_90
  unfold fX1_copyFrom at h
  refine lv_aload_n C.1 C.2.1 dX1_copyFrom_0 rfl (lv_at hl 0 rfl) ?_
  refine lv_aload_n C.1 C.2.1 dX1_copyFrom_1 rfl (lv_at hl 1 rfl) ?_
  refine r_gI C hK hP cl_1 (k := 0) (by decide) wd_189 rfl dX1_copyFrom_2 h (fun x7 h => ?_)
  refine r_qI C hK hP hS hT cl_1 (k := 0) (by decide) wd_189 rfl rfl (tyX1_ok 0 (by decide)) dX1_copyFrom_5 h (fun M8 H locs h hP hS => ?_)
  refine lv_aload_n C.1 C.2.1 dX1_copyFrom_8 rfl (lv_at hl 1 rfl) ?_
  refine r_gF C hK hP cl_1 (k := 1) (by decide) wd_191 rfl dX1_copyFrom_9 h (fun b9 h => ?_)
  refine lv_iconst (v := 0) C.1 C.2.1 dX1_copyFrom_12 (by decide) ?_
  refine lv_aload_n C.1 C.2.1 dX1_copyFrom_13 rfl (lv_at hl 0 rfl) ?_
  refine r_tF C hK hP hT cl_1 (k := 1) (by decide) wd_191 rfl dX1_copyFrom_14 h (fun b10 h => ?_)
  refine lv_iconst (v := 0) C.1 C.2.1 dX1_copyFrom_17 (by decide) ?_
  refine lv_bipush (v := 10) C.1 C.2.1 dX1_copyFrom_18 (by decide) ?_
  refine r_cpy C hK hP hS hl.1 (ti := 0) (by decide) wd_421 w_acn w_acs w_aci (Nat.le_of_ble_eq_true rfl) (Nat.le_of_ble_eq_true rfl) dX1_copyFrom_20 h (fun M11 H locs h hP hS => ?_)
  refine lv_aload_n C.1 C.2.1 dX1_copyFrom_23 rfl (lv_at hl 1 rfl) ?_
  refine r_gF C hK hP cl_1 (k := 2) (by decide) wd_192 rfl dX1_copyFrom_24 h (fun b12 h => ?_)
  refine lv_iconst (v := 0) C.1 C.2.1 dX1_copyFrom_27 (by decide) ?_
  refine lv_aload_n C.1 C.2.1 dX1_copyFrom_28 rfl (lv_at hl 0 rfl) ?_
  refine r_tF C hK hP hT cl_1 (k := 2) (by decide) wd_192 rfl dX1_copyFrom_29 h (fun b13 h => ?_)
  refine lv_iconst (v := 0) C.1 C.2.1 dX1_copyFrom_32 (by decide) ?_
  refine lv_bipush (v := 10) C.1 C.2.1 dX1_copyFrom_33 (by decide) ?_
  refine r_cpy C hK hP hS hl.1 (ti := 0) (by decide) wd_421 w_acn w_acs w_aci (Nat.le_of_ble_eq_true rfl) (Nat.le_of_ble_eq_true rfl) dX1_copyFrom_35 h (fun M14 H locs h hP hS => ?_)
  refine lv_aload_n C.1 C.2.1 dX1_copyFrom_38 rfl (lv_at hl 1 rfl) ?_
  refine r_gF C hK hP cl_1 (k := 3) (by decide) wd_193 rfl dX1_copyFrom_39 h (fun b15 h => ?_)
  refine lv_iconst (v := 0) C.1 C.2.1 dX1_copyFrom_42 (by decide) ?_
  refine lv_aload_n C.1 C.2.1 dX1_copyFrom_43 rfl (lv_at hl 0 rfl) ?_
  refine r_tF C hK hP hT cl_1 (k := 3) (by decide) wd_193 rfl dX1_copyFrom_44 h (fun b16 h => ?_)
  refine lv_iconst (v := 0) C.1 C.2.1 dX1_copyFrom_47 (by decide) ?_
  refine lv_bipush (v := 10) C.1 C.2.1 dX1_copyFrom_48 (by decide) ?_
  refine r_cpy C hK hP hS hl.1 (ti := 0) (by decide) wd_421 w_acn w_acs w_aci (Nat.le_of_ble_eq_true rfl) (Nat.le_of_ble_eq_true rfl) dX1_copyFrom_50 h (fun M17 H locs h hP hS => ?_)
  refine lv_iconst (v := 0) C.1 C.2.1 dX1_copyFrom_53 (by decide) ?_
  refine lv_istore_n (lv' := [(2, .int 0), (0, .ref a0), (1, .ref a1)]) C.1 C.2.1 dX1_copyFrom_54 rfl hl (by decide) rfl (fun ls hl => ?_)
  exact J55  n (0) M17 _ _ _ hP hS (lv_sub hl [1, 2, 0] rfl) h
theorem dX1_has_0 : decode cX1_has 0 = .ok (.iload_n 1, 1) := by decide +kernel
theorem dX1_has_1 : decode cX1_has 1 = .ok (.ifCond .lt 21, 3) := by decide +kernel
theorem dX1_has_4 : decode cX1_has 4 = .ok (.iload_n 1, 1) := by decide +kernel
theorem dX1_has_5 : decode cX1_has 5 = .ok (.aload_n 0, 1) := by decide +kernel
theorem dX1_has_6 : decode cX1_has 6 = .ok (.getfield 9, 3) := by decide +kernel
theorem dX1_has_9 : decode cX1_has 9 = .ok (.if_icmp .ge 13, 3) := by decide +kernel
theorem dX1_has_12 : decode cX1_has 12 = .ok (.iload_n 1, 1) := by decide +kernel
theorem dX1_has_13 : decode cX1_has 13 = .ok (.bipush 10, 2) := by decide +kernel
theorem dX1_has_15 : decode cX1_has 15 = .ok (.if_icmp .ge 7, 3) := by decide +kernel
theorem dX1_has_18 : decode cX1_has 18 = .ok (.iconst 1, 1) := by decide +kernel
theorem dX1_has_19 : decode cX1_has 19 = .ok (.goto 4, 3) := by decide +kernel
theorem dX1_has_22 : decode cX1_has 22 = .ok (.iconst 0, 1) := by decide +kernel
theorem dX1_has_23 : decode cX1_has 23 = .ok (.ireturn, 1) := by decide +kernel
abbrev rmX1_has : Room := { frames := 1, cells := 0, slots := 0, locals := 40 }
noncomputable def fX1_has (n : Nat) (Sh : Sp) (M : Mm) (a0 : Nat) (a1 : Int32) : Option Int32 :=
  if a1 < 0 then
    some 0
  else
    tI M a0 0 fun x1 =>
    if a1 < x1 then
      if a1 < 10 then
        some 1
      else
        some 0
    else
      some 0
set_option maxRecDepth 100000 in
set_option maxHeartbeats 4000000 in
theorem kX1_has {l : Launch} {G : Gt} {n : Nat} {Sh : Sp} {M : Mm} {a0 : Nat} {a1 : Int32} (hT : Sh a0 = some (.inl 1)) {r : Int32} (h : fX1_has n Sh M a0 a1 = some r) : Ct l yX1_has cX1_has 2 (some .boolean) rmX1_has G Sh M [.ref a0, .int a1] (some (.int r)) M := by
  refine Ct.of (by decide) (Nat.le_of_ble_eq_true rfl) ?_
  intro p e s m args below meth c ls C hK hX hP hS hb hlk hr hl
  replace hl : lv_has ls 2 [(0, .ref a0), (1, .int a1)] := hl
  unfold fX1_has at h
  refine lv_iload_n C.1 C.2.1 dX1_has_0 rfl (lv_at hl 1 rfl) ?_
  refine b_lt (tgt := 22) C dX1_has_1 (by decide) h (fun h => ?_) (fun h => ?_)
  · refine lv_iconst (v := 0) C.1 C.2.1 dX1_has_22 (by decide) ?_
    have e := Option.some.inj h
    exact q_z C hlk hP hS hr (by decide) (by rw [← e]) rfl dX1_has_23
  · refine lv_iload_n C.1 C.2.1 dX1_has_4 rfl (lv_at hl 1 rfl) ?_
    refine lv_aload_n C.1 C.2.1 dX1_has_5 rfl (lv_at hl 0 rfl) ?_
    refine r_tI C hK hP hT cl_1 (k := 0) (by decide) wd_189 rfl dX1_has_6 h (fun x1 h => ?_)
    refine b_ige (tgt := 22) C dX1_has_9 (by decide) h (fun h => ?_) (fun h => ?_)
    · refine lv_iload_n C.1 C.2.1 dX1_has_12 rfl (lv_at hl 1 rfl) ?_
      refine lv_bipush (v := 10) C.1 C.2.1 dX1_has_13 (by decide) ?_
      refine b_ige (tgt := 22) C dX1_has_15 (by decide) h (fun h => ?_) (fun h => ?_)
      · refine lv_iconst (v := 1) C.1 C.2.1 dX1_has_18 (by decide) ?_
        refine lv_goto (tgt := 23) C.1 C.2.1 dX1_has_19 (by decide) ?_
        have e := Option.some.inj h
        exact q_z C hlk hP hS hr (by decide) (by rw [← e]) rfl dX1_has_23
      · refine lv_iconst (v := 0) C.1 C.2.1 dX1_has_22 (by decide) ?_
        have e := Option.some.inj h
        exact q_z C hlk hP hS hr (by decide) (by rw [← e]) rfl dX1_has_23
    · refine lv_iconst (v := 0) C.1 C.2.1 dX1_has_22 (by decide) ?_
      have e := Option.some.inj h
      exact q_z C hlk hP hS hr (by decide) (by rw [← e]) rfl dX1_has_23
theorem dX1_rankOf_0 : decode cX1_rankOf 0 = .ok (.aload_n 0, 1) := by decide +kernel
theorem dX1_rankOf_1 : decode cX1_rankOf 1 = .ok (.iload_n 1, 1) := by decide +kernel
theorem dX1_rankOf_2 : decode cX1_rankOf 2 = .ok (.invokevirtual 44, 3) := by decide +kernel
theorem dX1_rankOf_5 : decode cX1_rankOf 5 = .ok (.ifCond .eq 12, 3) := by decide +kernel
theorem dX1_rankOf_8 : decode cX1_rankOf 8 = .ok (.aload_n 0, 1) := by decide +kernel
theorem dX1_rankOf_9 : decode cX1_rankOf 9 = .ok (.getfield 15, 3) := by decide +kernel
theorem dX1_rankOf_12 : decode cX1_rankOf 12 = .ok (.iload_n 1, 1) := by decide +kernel
theorem dX1_rankOf_13 : decode cX1_rankOf 13 = .ok (.iaload, 1) := by decide +kernel
theorem dX1_rankOf_14 : decode cX1_rankOf 14 = .ok (.goto 4, 3) := by decide +kernel
theorem dX1_rankOf_17 : decode cX1_rankOf 17 = .ok (.iconst (-1), 1) := by decide +kernel
theorem dX1_rankOf_18 : decode cX1_rankOf 18 = .ok (.ireturn, 1) := by decide +kernel
abbrev rmX1_rankOf : Room := { frames := 2, cells := 0, slots := 0, locals := 61 }
noncomputable def fX1_rankOf (n : Nat) (Sh : Sp) (M : Mm) (a0 : Nat) (a1 : Int32) : Option Int32 :=
  (fX1_has n Sh M a0 a1).bind fun r1 =>
  if r1 = 0 then
    some (-1)
  else
    tF M a0 1 fun b2 =>
    aI Sh M b2 0 a1 fun x3 =>
    some x3
set_option maxRecDepth 100000 in
set_option maxHeartbeats 4000000 in
theorem kX1_rankOf {l : Launch} {G : Gt} {n : Nat} {Sh : Sp} {M : Mm} {a0 : Nat} {a1 : Int32} (hT : Sh a0 = some (.inl 1)) {r : Int32} (h : fX1_rankOf n Sh M a0 a1 = some r) : Ct l yX1_rankOf cX1_rankOf 2 (some .int) rmX1_rankOf G Sh M [.ref a0, .int a1] (some (.int r)) M := by
  refine Ct.of (by decide) (Nat.le_of_ble_eq_true rfl) ?_
  intro p e s m args below meth c ls C hK hX hP hS hb hlk hr hl
  replace hl : lv_has ls 2 [(0, .ref a0), (1, .int a1)] := hl
  unfold fX1_rankOf at h
  refine lv_aload_n C.1 C.2.1 dX1_rankOf_0 rfl (lv_at hl 0 rfl) ?_
  refine lv_iload_n C.1 C.2.1 dX1_rankOf_1 rfl (lv_at hl 1 rfl) ?_
  obtain ⟨r1, hc, h⟩ := bS h
  refine r_V1 C hK hX hb hP hS hl.1 (kX1_has (hT) hc) hT cl_1 wd_445 mo_X1_has wd_446 wd_447 ⟨Nat.le_of_ble_eq_true rfl, Nat.le_of_ble_eq_true rfl⟩ ⟨Nat.le_of_ble_eq_true rfl, Nat.le_of_ble_eq_true rfl⟩ rfl (rest := []) rfl (Nat.le_of_ble_eq_true rfl) dX1_rankOf_2 (fun H locs hP hS => ?_)
  refine b_eq (tgt := 17) C dX1_rankOf_5 (by decide) h (fun h => ?_) (fun h => ?_)
  · refine lv_iconst (v := (-1)) C.1 C.2.1 dX1_rankOf_17 (by decide) ?_
    have e := Option.some.inj h
    exact q_i C hlk hP hS hr (by rw [← e]) rfl dX1_rankOf_18
  · refine lv_aload_n C.1 C.2.1 dX1_rankOf_8 rfl (lv_at hl 0 rfl) ?_
    refine r_tF C hK hP hT cl_1 (k := 1) (by decide) wd_191 rfl dX1_rankOf_9 h (fun b2 h => ?_)
    refine lv_iload_n C.1 C.2.1 dX1_rankOf_12 rfl (lv_at hl 1 rfl) ?_
    refine r_aI C hK hP dX1_rankOf_13 h (fun x3 h => ?_)
    refine lv_goto (tgt := 18) C.1 C.2.1 dX1_rankOf_14 (by decide) ?_
    have e := Option.some.inj h
    exact q_i C hlk hP hS hr (by rw [← e]) rfl dX1_rankOf_18
theorem dX1_targetOf_0 : decode cX1_targetOf 0 = .ok (.aload_n 0, 1) := by decide +kernel
theorem dX1_targetOf_1 : decode cX1_targetOf 1 = .ok (.iload_n 1, 1) := by decide +kernel
theorem dX1_targetOf_2 : decode cX1_targetOf 2 = .ok (.invokevirtual 44, 3) := by decide +kernel
theorem dX1_targetOf_5 : decode cX1_targetOf 5 = .ok (.ifCond .eq 12, 3) := by decide +kernel
theorem dX1_targetOf_8 : decode cX1_targetOf 8 = .ok (.aload_n 0, 1) := by decide +kernel
theorem dX1_targetOf_9 : decode cX1_targetOf 9 = .ok (.getfield 19, 3) := by decide +kernel
theorem dX1_targetOf_12 : decode cX1_targetOf 12 = .ok (.iload_n 1, 1) := by decide +kernel
theorem dX1_targetOf_13 : decode cX1_targetOf 13 = .ok (.iaload, 1) := by decide +kernel
theorem dX1_targetOf_14 : decode cX1_targetOf 14 = .ok (.goto 4, 3) := by decide +kernel
theorem dX1_targetOf_17 : decode cX1_targetOf 17 = .ok (.iconst (-1), 1) := by decide +kernel
theorem dX1_targetOf_18 : decode cX1_targetOf 18 = .ok (.ireturn, 1) := by decide +kernel
abbrev rmX1_targetOf : Room := { frames := 2, cells := 0, slots := 0, locals := 61 }
noncomputable def fX1_targetOf (n : Nat) (Sh : Sp) (M : Mm) (a0 : Nat) (a1 : Int32) : Option Int32 :=
  (fX1_has n Sh M a0 a1).bind fun r1 =>
  if r1 = 0 then
    some (-1)
  else
    tF M a0 2 fun b2 =>
    aI Sh M b2 0 a1 fun x3 =>
    some x3
set_option maxRecDepth 100000 in
set_option maxHeartbeats 4000000 in
theorem kX1_targetOf {l : Launch} {G : Gt} {n : Nat} {Sh : Sp} {M : Mm} {a0 : Nat} {a1 : Int32} (hT : Sh a0 = some (.inl 1)) {r : Int32} (h : fX1_targetOf n Sh M a0 a1 = some r) : Ct l yX1_targetOf cX1_targetOf 2 (some .int) rmX1_targetOf G Sh M [.ref a0, .int a1] (some (.int r)) M := by
  refine Ct.of (by decide) (Nat.le_of_ble_eq_true rfl) ?_
  intro p e s m args below meth c ls C hK hX hP hS hb hlk hr hl
  replace hl : lv_has ls 2 [(0, .ref a0), (1, .int a1)] := hl
  unfold fX1_targetOf at h
  refine lv_aload_n C.1 C.2.1 dX1_targetOf_0 rfl (lv_at hl 0 rfl) ?_
  refine lv_iload_n C.1 C.2.1 dX1_targetOf_1 rfl (lv_at hl 1 rfl) ?_
  obtain ⟨r1, hc, h⟩ := bS h
  refine r_V1 C hK hX hb hP hS hl.1 (kX1_has (hT) hc) hT cl_1 wd_445 mo_X1_has wd_446 wd_447 ⟨Nat.le_of_ble_eq_true rfl, Nat.le_of_ble_eq_true rfl⟩ ⟨Nat.le_of_ble_eq_true rfl, Nat.le_of_ble_eq_true rfl⟩ rfl (rest := []) rfl (Nat.le_of_ble_eq_true rfl) dX1_targetOf_2 (fun H locs hP hS => ?_)
  refine b_eq (tgt := 17) C dX1_targetOf_5 (by decide) h (fun h => ?_) (fun h => ?_)
  · refine lv_iconst (v := (-1)) C.1 C.2.1 dX1_targetOf_17 (by decide) ?_
    have e := Option.some.inj h
    exact q_i C hlk hP hS hr (by rw [← e]) rfl dX1_targetOf_18
  · refine lv_aload_n C.1 C.2.1 dX1_targetOf_8 rfl (lv_at hl 0 rfl) ?_
    refine r_tF C hK hP hT cl_1 (k := 2) (by decide) wd_192 rfl dX1_targetOf_9 h (fun b2 h => ?_)
    refine lv_iload_n C.1 C.2.1 dX1_targetOf_12 rfl (lv_at hl 1 rfl) ?_
    refine r_aI C hK hP dX1_targetOf_13 h (fun x3 h => ?_)
    refine lv_goto (tgt := 18) C.1 C.2.1 dX1_targetOf_14 (by decide) ?_
    have e := Option.some.inj h
    exact q_i C hlk hP hS hr (by rw [← e]) rfl dX1_targetOf_18
theorem dX1_regionOf_0 : decode cX1_regionOf 0 = .ok (.aload_n 0, 1) := by decide +kernel
theorem dX1_regionOf_1 : decode cX1_regionOf 1 = .ok (.iload_n 1, 1) := by decide +kernel
theorem dX1_regionOf_2 : decode cX1_regionOf 2 = .ok (.invokevirtual 44, 3) := by decide +kernel
theorem dX1_regionOf_5 : decode cX1_regionOf 5 = .ok (.ifCond .eq 12, 3) := by decide +kernel
theorem dX1_regionOf_8 : decode cX1_regionOf 8 = .ok (.aload_n 0, 1) := by decide +kernel
theorem dX1_regionOf_9 : decode cX1_regionOf 9 = .ok (.getfield 22, 3) := by decide +kernel
theorem dX1_regionOf_12 : decode cX1_regionOf 12 = .ok (.iload_n 1, 1) := by decide +kernel
theorem dX1_regionOf_13 : decode cX1_regionOf 13 = .ok (.iaload, 1) := by decide +kernel
theorem dX1_regionOf_14 : decode cX1_regionOf 14 = .ok (.goto 4, 3) := by decide +kernel
theorem dX1_regionOf_17 : decode cX1_regionOf 17 = .ok (.iconst (-1), 1) := by decide +kernel
theorem dX1_regionOf_18 : decode cX1_regionOf 18 = .ok (.ireturn, 1) := by decide +kernel
abbrev rmX1_regionOf : Room := { frames := 2, cells := 0, slots := 0, locals := 61 }
noncomputable def fX1_regionOf (n : Nat) (Sh : Sp) (M : Mm) (a0 : Nat) (a1 : Int32) : Option Int32 :=
  (fX1_has n Sh M a0 a1).bind fun r1 =>
  if r1 = 0 then
    some (-1)
  else
    tF M a0 3 fun b2 =>
    aI Sh M b2 0 a1 fun x3 =>
    some x3
set_option maxRecDepth 100000 in
set_option maxHeartbeats 4000000 in
theorem kX1_regionOf {l : Launch} {G : Gt} {n : Nat} {Sh : Sp} {M : Mm} {a0 : Nat} {a1 : Int32} (hT : Sh a0 = some (.inl 1)) {r : Int32} (h : fX1_regionOf n Sh M a0 a1 = some r) : Ct l yX1_regionOf cX1_regionOf 2 (some .int) rmX1_regionOf G Sh M [.ref a0, .int a1] (some (.int r)) M := by
  refine Ct.of (by decide) (Nat.le_of_ble_eq_true rfl) ?_
  intro p e s m args below meth c ls C hK hX hP hS hb hlk hr hl
  replace hl : lv_has ls 2 [(0, .ref a0), (1, .int a1)] := hl
  unfold fX1_regionOf at h
  refine lv_aload_n C.1 C.2.1 dX1_regionOf_0 rfl (lv_at hl 0 rfl) ?_
  refine lv_iload_n C.1 C.2.1 dX1_regionOf_1 rfl (lv_at hl 1 rfl) ?_
  obtain ⟨r1, hc, h⟩ := bS h
  refine r_V1 C hK hX hb hP hS hl.1 (kX1_has (hT) hc) hT cl_1 wd_445 mo_X1_has wd_446 wd_447 ⟨Nat.le_of_ble_eq_true rfl, Nat.le_of_ble_eq_true rfl⟩ ⟨Nat.le_of_ble_eq_true rfl, Nat.le_of_ble_eq_true rfl⟩ rfl (rest := []) rfl (Nat.le_of_ble_eq_true rfl) dX1_regionOf_2 (fun H locs hP hS => ?_)
  refine b_eq (tgt := 17) C dX1_regionOf_5 (by decide) h (fun h => ?_) (fun h => ?_)
  · refine lv_iconst (v := (-1)) C.1 C.2.1 dX1_regionOf_17 (by decide) ?_
    have e := Option.some.inj h
    exact q_i C hlk hP hS hr (by rw [← e]) rfl dX1_regionOf_18
  · refine lv_aload_n C.1 C.2.1 dX1_regionOf_8 rfl (lv_at hl 0 rfl) ?_
    refine r_tF C hK hP hT cl_1 (k := 3) (by decide) wd_193 rfl dX1_regionOf_9 h (fun b2 h => ?_)
    refine lv_iload_n C.1 C.2.1 dX1_regionOf_12 rfl (lv_at hl 1 rfl) ?_
    refine r_aI C hK hP dX1_regionOf_13 h (fun x3 h => ?_)
    refine lv_goto (tgt := 18) C.1 C.2.1 dX1_regionOf_14 (by decide) ?_
    have e := Option.some.inj h
    exact q_i C hlk hP hS hr (by rw [← e]) rfl dX1_regionOf_18
theorem dX1_about_0 : decode cX1_about 0 = .ok (.aload_n 0, 1) := by decide +kernel
theorem dX1_about_1 : decode cX1_about 1 = .ok (.iload_n 1, 1) := by decide +kernel
theorem dX1_about_2 : decode cX1_about 2 = .ok (.invokevirtual 44, 3) := by decide +kernel
theorem dX1_about_5 : decode cX1_about 5 = .ok (.ifCond .ne 5, 3) := by decide +kernel
theorem dX1_about_8 : decode cX1_about 8 = .ok (.iconst (-1), 1) := by decide +kernel
theorem dX1_about_9 : decode cX1_about 9 = .ok (.ireturn, 1) := by decide +kernel
theorem dX1_about_10 : decode cX1_about 10 = .ok (.iload_n 2, 1) := by decide +kernel
theorem dX1_about_11 : decode cX1_about 11 = .ok (.tableswitch 43 0 2 #[25, 31, 37], 25) := by decide +kernel
theorem dX1_about_36 : decode cX1_about 36 = .ok (.aload_n 0, 1) := by decide +kernel
theorem dX1_about_37 : decode cX1_about 37 = .ok (.iload_n 1, 1) := by decide +kernel
theorem dX1_about_38 : decode cX1_about 38 = .ok (.invokevirtual 48, 3) := by decide +kernel
theorem dX1_about_41 : decode cX1_about 41 = .ok (.ireturn, 1) := by decide +kernel
theorem dX1_about_42 : decode cX1_about 42 = .ok (.aload_n 0, 1) := by decide +kernel
theorem dX1_about_43 : decode cX1_about 43 = .ok (.iload_n 1, 1) := by decide +kernel
theorem dX1_about_44 : decode cX1_about 44 = .ok (.invokevirtual 52, 3) := by decide +kernel
theorem dX1_about_47 : decode cX1_about 47 = .ok (.ireturn, 1) := by decide +kernel
theorem dX1_about_48 : decode cX1_about 48 = .ok (.aload_n 0, 1) := by decide +kernel
theorem dX1_about_49 : decode cX1_about 49 = .ok (.iload_n 1, 1) := by decide +kernel
theorem dX1_about_50 : decode cX1_about 50 = .ok (.invokevirtual 55, 3) := by decide +kernel
theorem dX1_about_53 : decode cX1_about 53 = .ok (.ireturn, 1) := by decide +kernel
theorem dX1_about_54 : decode cX1_about 54 = .ok (.aload_n 0, 1) := by decide +kernel
theorem dX1_about_55 : decode cX1_about 55 = .ok (.getfield 27, 3) := by decide +kernel
theorem dX1_about_58 : decode cX1_about 58 = .ok (.iload_n 1, 1) := by decide +kernel
theorem dX1_about_59 : decode cX1_about 59 = .ok (.aaload, 1) := by decide +kernel
theorem dX1_about_60 : decode cX1_about 60 = .ok (.getfield 58, 3) := by decide +kernel
theorem dX1_about_63 : decode cX1_about 63 = .ok (.ireturn, 1) := by decide +kernel
abbrev rmX1_about : Room := { frames := 3, cells := 0, slots := 0, locals := 82 }
noncomputable def fX1_about (n : Nat) (Sh : Sp) (M : Mm) (a0 : Nat) (a1 : Int32) (a2 : Int32) : Option Int32 :=
  (fX1_has n Sh M a0 a1).bind fun r1 =>
  if r1 = 0 then
    some (-1)
  else
    if a2 = 0 then
      (fX1_rankOf n Sh M a0 a1).bind fun r2 =>
      some r2
    else if a2 = 1 then
      (fX1_targetOf n Sh M a0 a1).bind fun r3 =>
      some r3
    else if a2 = 2 then
      (fX1_regionOf n Sh M a0 a1).bind fun r4 =>
      some r4
    else
      tF M a0 4 fun b5 =>
      aR Sh M b5 4 a1 fun b6 =>
      gI Sh M b6 5 1 fun x7 =>
      some x7
set_option maxRecDepth 100000 in
set_option maxHeartbeats 4000000 in
theorem kX1_about {l : Launch} {G : Gt} {n : Nat} {Sh : Sp} {M : Mm} {a0 : Nat} {a1 : Int32} {a2 : Int32} (hT : Sh a0 = some (.inl 1)) {r : Int32} (h : fX1_about n Sh M a0 a1 a2 = some r) : Ct l yX1_about cX1_about 3 (some .int) rmX1_about G Sh M [.ref a0, .int a1, .int a2] (some (.int r)) M := by
  refine Ct.of (by decide) (Nat.le_of_ble_eq_true rfl) ?_
  intro p e s m args below meth c ls C hK hX hP hS hb hlk hr hl
  replace hl : lv_has ls 3 [(0, .ref a0), (1, .int a1), (2, .int a2)] := hl
  unfold fX1_about at h
  refine lv_aload_n C.1 C.2.1 dX1_about_0 rfl (lv_at hl 0 rfl) ?_
  refine lv_iload_n C.1 C.2.1 dX1_about_1 rfl (lv_at hl 1 rfl) ?_
  obtain ⟨r1, hc, h⟩ := bS h
  refine r_V1 C hK hX hb hP hS hl.1 (kX1_has (hT) hc) hT cl_1 wd_445 mo_X1_has wd_446 wd_447 ⟨Nat.le_of_ble_eq_true rfl, Nat.le_of_ble_eq_true rfl⟩ ⟨Nat.le_of_ble_eq_true rfl, Nat.le_of_ble_eq_true rfl⟩ rfl (rest := []) rfl (Nat.le_of_ble_eq_true rfl) dX1_about_2 (fun H locs hP hS => ?_)
  refine b_ne (tgt := 10) C dX1_about_5 (by decide) h (fun h => ?_) (fun h => ?_)
  · refine lv_iconst (v := (-1)) C.1 C.2.1 dX1_about_8 (by decide) ?_
    have e := Option.some.inj h
    exact q_i C hlk hP hS hr (by rw [← e]) rfl dX1_about_9
  · refine lv_iload_n C.1 C.2.1 dX1_about_10 rfl (lv_at hl 2 rfl) ?_
    by_cases q0 : a2 = 0
    · rw [if_pos q0] at h
      refine lv_tableIn (off := 25) (tgt := 36) C.1 C.2.1 dX1_about_11 (by rw [q0]; decide) (by rw [q0]; decide) (by rw [q0]; decide) (by decide) ?_
      refine lv_aload_n C.1 C.2.1 dX1_about_36 rfl (lv_at hl 0 rfl) ?_
      refine lv_iload_n C.1 C.2.1 dX1_about_37 rfl (lv_at hl 1 rfl) ?_
      obtain ⟨r2, hc, h⟩ := bS h
      refine r_V1 C hK hX hb hP hS hl.1 (kX1_rankOf (hT) hc) hT cl_1 wd_441 mo_X1_rankOf wd_442 wd_443 ⟨Nat.le_of_ble_eq_true rfl, Nat.le_of_ble_eq_true rfl⟩ ⟨Nat.le_of_ble_eq_true rfl, Nat.le_of_ble_eq_true rfl⟩ rfl (rest := []) rfl (Nat.le_of_ble_eq_true rfl) dX1_about_38 (fun H locs hP hS => ?_)
      have e := Option.some.inj h
      exact q_i C hlk hP hS hr (by rw [← e]) rfl dX1_about_41
    rw [if_neg q0] at h
    by_cases q1 : a2 = 1
    · rw [if_pos q1] at h
      refine lv_tableIn (off := 31) (tgt := 42) C.1 C.2.1 dX1_about_11 (by rw [q1]; decide) (by rw [q1]; decide) (by rw [q1]; decide) (by decide) ?_
      refine lv_aload_n C.1 C.2.1 dX1_about_42 rfl (lv_at hl 0 rfl) ?_
      refine lv_iload_n C.1 C.2.1 dX1_about_43 rfl (lv_at hl 1 rfl) ?_
      obtain ⟨r3, hc, h⟩ := bS h
      refine r_V1 C hK hX hb hP hS hl.1 (kX1_targetOf (hT) hc) hT cl_1 wd_653 mo_X1_targetOf wd_654 wd_655 ⟨Nat.le_of_ble_eq_true rfl, Nat.le_of_ble_eq_true rfl⟩ ⟨Nat.le_of_ble_eq_true rfl, Nat.le_of_ble_eq_true rfl⟩ rfl (rest := []) rfl (Nat.le_of_ble_eq_true rfl) dX1_about_44 (fun H locs hP hS => ?_)
      have e := Option.some.inj h
      exact q_i C hlk hP hS hr (by rw [← e]) rfl dX1_about_47
    rw [if_neg q1] at h
    by_cases q2 : a2 = 2
    · rw [if_pos q2] at h
      refine lv_tableIn (off := 37) (tgt := 48) C.1 C.2.1 dX1_about_11 (by rw [q2]; decide) (by rw [q2]; decide) (by rw [q2]; decide) (by decide) ?_
      refine lv_aload_n C.1 C.2.1 dX1_about_48 rfl (lv_at hl 0 rfl) ?_
      refine lv_iload_n C.1 C.2.1 dX1_about_49 rfl (lv_at hl 1 rfl) ?_
      obtain ⟨r4, hc, h⟩ := bS h
      refine r_V1 C hK hX hb hP hS hl.1 (kX1_regionOf (hT) hc) hT cl_1 wd_657 mo_X1_regionOf wd_658 wd_659 ⟨Nat.le_of_ble_eq_true rfl, Nat.le_of_ble_eq_true rfl⟩ ⟨Nat.le_of_ble_eq_true rfl, Nat.le_of_ble_eq_true rfl⟩ rfl (rest := []) rfl (Nat.le_of_ble_eq_true rfl) dX1_about_50 (fun H locs hP hS => ?_)
      have e := Option.some.inj h
      exact q_i C hlk hP hS hr (by rw [← e]) rfl dX1_about_53
    rw [if_neg q2] at h
    refine lv_tableOut (tgt := 54) C.1 C.2.1 dX1_about_11 (sw_out (x := a2) (lo := 0) (n := 3) (by decide) (fun j hj => match j, hj with | 0, _ => fun hx => q0 (hx.trans (by decide)) | 1, _ => fun hx => q1 (hx.trans (by decide)) | 2, _ => fun hx => q2 (hx.trans (by decide)) | (k + 3), hj => absurd hj (by omega))) (by decide) ?_
    refine lv_aload_n C.1 C.2.1 dX1_about_54 rfl (lv_at hl 0 rfl) ?_
    refine r_tF C hK hP hT cl_1 (k := 4) (by decide) wd_194 rfl dX1_about_55 h (fun b5 h => ?_)
    refine lv_iload_n C.1 C.2.1 dX1_about_58 rfl (lv_at hl 1 rfl) ?_
    refine r_aR4 C hK hP dX1_about_59 h (fun b6 h => ?_)
    refine r_gIN C hK hP cl_5 (k := 1) (by decide) (hX.nw wd_126) rfl dX1_about_60 h (fun x7 h => ?_)
    have e := Option.some.inj h
    exact q_i C hlk hP hS hr (by rw [← e]) rfl dX1_about_63
theorem dX1_signAt_0 : decode cX1_signAt 0 = .ok (.aload_n 0, 1) := by decide +kernel
theorem dX1_signAt_1 : decode cX1_signAt 1 = .ok (.iload_n 1, 1) := by decide +kernel
theorem dX1_signAt_2 : decode cX1_signAt 2 = .ok (.invokevirtual 44, 3) := by decide +kernel
theorem dX1_signAt_5 : decode cX1_signAt 5 = .ok (.ifCond .eq 16, 3) := by decide +kernel
theorem dX1_signAt_8 : decode cX1_signAt 8 = .ok (.aload_n 0, 1) := by decide +kernel
theorem dX1_signAt_9 : decode cX1_signAt 9 = .ok (.getfield 27, 3) := by decide +kernel
theorem dX1_signAt_12 : decode cX1_signAt 12 = .ok (.iload_n 1, 1) := by decide +kernel
theorem dX1_signAt_13 : decode cX1_signAt 13 = .ok (.aaload, 1) := by decide +kernel
theorem dX1_signAt_14 : decode cX1_signAt 14 = .ok (.iload_n 2, 1) := by decide +kernel
theorem dX1_signAt_15 : decode cX1_signAt 15 = .ok (.invokevirtual 61, 3) := by decide +kernel
theorem dX1_signAt_18 : decode cX1_signAt 18 = .ok (.goto 4, 3) := by decide +kernel
theorem dX1_signAt_21 : decode cX1_signAt 21 = .ok (.iconst (-1), 1) := by decide +kernel
theorem dX1_signAt_22 : decode cX1_signAt 22 = .ok (.ireturn, 1) := by decide +kernel
abbrev rmX1_signAt : Room := { frames := 2, cells := 0, slots := 0, locals := 61 }
noncomputable def fX1_signAt (n : Nat) (Sh : Sp) (M : Mm) (a0 : Nat) (a1 : Int32) (a2 : Int32) : Option Int32 :=
  (fX1_has n Sh M a0 a1).bind fun r1 =>
  if r1 = 0 then
    some (-1)
  else
    tF M a0 4 fun b2 =>
    aR Sh M b2 4 a1 fun b3 =>
    chk (Sh b3 = some (.inl 5)) <|
    (fX5_at n Sh M b3 a2).bind fun r4 =>
    some r4
set_option maxRecDepth 100000 in
set_option maxHeartbeats 4000000 in
theorem kX1_signAt {l : Launch} {G : Gt} {n : Nat} {Sh : Sp} {M : Mm} {a0 : Nat} {a1 : Int32} {a2 : Int32} (hT : Sh a0 = some (.inl 1)) {r : Int32} (h : fX1_signAt n Sh M a0 a1 a2 = some r) : Ct l yX1_signAt cX1_signAt 3 (some .int) rmX1_signAt G Sh M [.ref a0, .int a1, .int a2] (some (.int r)) M := by
  refine Ct.of (by decide) (Nat.le_of_ble_eq_true rfl) ?_
  intro p e s m args below meth c ls C hK hX hP hS hb hlk hr hl
  replace hl : lv_has ls 3 [(0, .ref a0), (1, .int a1), (2, .int a2)] := hl
  unfold fX1_signAt at h
  refine lv_aload_n C.1 C.2.1 dX1_signAt_0 rfl (lv_at hl 0 rfl) ?_
  refine lv_iload_n C.1 C.2.1 dX1_signAt_1 rfl (lv_at hl 1 rfl) ?_
  obtain ⟨r1, hc, h⟩ := bS h
  refine r_V1 C hK hX hb hP hS hl.1 (kX1_has (hT) hc) hT cl_1 wd_445 mo_X1_has wd_446 wd_447 ⟨Nat.le_of_ble_eq_true rfl, Nat.le_of_ble_eq_true rfl⟩ ⟨Nat.le_of_ble_eq_true rfl, Nat.le_of_ble_eq_true rfl⟩ rfl (rest := []) rfl (Nat.le_of_ble_eq_true rfl) dX1_signAt_2 (fun H locs hP hS => ?_)
  refine b_eq (tgt := 21) C dX1_signAt_5 (by decide) h (fun h => ?_) (fun h => ?_)
  · refine lv_iconst (v := (-1)) C.1 C.2.1 dX1_signAt_21 (by decide) ?_
    have e := Option.some.inj h
    exact q_i C hlk hP hS hr (by rw [← e]) rfl dX1_signAt_22
  · refine lv_aload_n C.1 C.2.1 dX1_signAt_8 rfl (lv_at hl 0 rfl) ?_
    refine r_tF C hK hP hT cl_1 (k := 4) (by decide) wd_194 rfl dX1_signAt_9 h (fun b2 h => ?_)
    refine lv_iload_n C.1 C.2.1 dX1_signAt_12 rfl (lv_at hl 1 rfl) ?_
    refine r_aR4 C hK hP dX1_signAt_13 h (fun b3 h => ?_)
    refine lv_iload_n C.1 C.2.1 dX1_signAt_14 rfl (lv_at hl 2 rfl) ?_
    obtain ⟨hs, h⟩ := chk_some h
    obtain ⟨r4, hc, h⟩ := bS h
    refine r_V1 C hK hX hb hP hS hl.1 (kX5_at (hs) hc) hs cl_5 wd_587 mo_X5_at wd_483 wd_484 ⟨Nat.le_of_ble_eq_true rfl, Nat.le_of_ble_eq_true rfl⟩ ⟨Nat.le_of_ble_eq_true rfl, Nat.le_of_ble_eq_true rfl⟩ rfl (rest := []) rfl (Nat.le_of_ble_eq_true rfl) dX1_signAt_15 (fun H locs hP hS => ?_)
    refine lv_goto (tgt := 22) C.1 C.2.1 dX1_signAt_18 (by decide) ?_
    have e := Option.some.inj h
    exact q_i C hlk hP hS hr (by rw [← e]) rfl dX1_signAt_22
