theorem dX7_laysText_0 : decode cX7_laysText 0 = .ok (.aload_n 0, 1) := by decide +kernel
theorem dX7_laysText_1 : decode cX7_laysText 1 = .ok (.bipush 30, 2) := by decide +kernel
theorem dX7_laysText_3 : decode cX7_laysText 3 = .ok (.iload_n 1, 1) := by decide +kernel
theorem dX7_laysText_4 : decode cX7_laysText 4 = .ok (.imul, 1) := by decide +kernel
theorem dX7_laysText_5 : decode cX7_laysText 5 = .ok (.bipush 14, 2) := by decide +kernel
theorem dX7_laysText_7 : decode cX7_laysText 7 = .ok (.iadd, 1) := by decide +kernel
theorem dX7_laysText_8 : decode cX7_laysText 8 = .ok (.aload_n 0, 1) := by decide +kernel
theorem dX7_laysText_9 : decode cX7_laysText 9 = .ok (.iload_n 1, 1) := by decide +kernel
theorem dX7_laysText_10 : decode cX7_laysText 10 = .ok (.bipush 12, 2) := by decide +kernel
theorem dX7_laysText_12 : decode cX7_laysText 12 = .ok (.invokevirtual 40, 3) := by decide +kernel
theorem dX7_laysText_15 : decode cX7_laysText 15 = .ok (.invokevirtual 61, 3) := by decide +kernel
theorem dX7_laysText_18 : decode cX7_laysText 18 = .ok (.return_, 1) := by decide +kernel
abbrev rmX7_laysText : Room := { frames := 2, cells := 0, slots := 0, locals := 63 }
noncomputable def fX7_laysText (n : Nat) (Sh : Sp) (M : Mm) (a0 : Nat) (a1 : Int32) : Option Mm :=
  (fX7_of n Sh M a0 a1 12).bind fun r1 =>
  (fX7_lays n Sh M a0 ((30 * a1) + 14) r1).bind fun r2 =>
  some r2
set_option maxRecDepth 100000 in
set_option maxHeartbeats 4000000 in
theorem kX7_laysText {l : Launch} {G : Gt} {n : Nat} {Sh : Sp} {M : Mm} {a0 : Nat} {a1 : Int32} (hT : Sh a0 = some (.inl 7)) {r : Mm} (h : fX7_laysText n Sh M a0 a1 = some r) : Ct l yX7_laysText cX7_laysText 2 none rmX7_laysText G Sh M [.ref a0, .int a1] none r := by
  refine Ct.of (by decide) (Nat.le_of_ble_eq_true rfl) ?_
  intro p e s m args below meth c ls C hK hX hP hS hb hlk hr hl
  replace hl : lv_has ls 2 [(0, .ref a0), (1, .int a1)] := hl
  unfold fX7_laysText at h
  refine lv_aload_n C.1 C.2.1 dX7_laysText_0 rfl (lv_at hl 0 rfl) ?_
  refine lv_bipush (v := 30) C.1 C.2.1 dX7_laysText_1 (by decide) ?_
  refine lv_iload_n C.1 C.2.1 dX7_laysText_3 rfl (lv_at hl 1 rfl) ?_
  refine lv_imul C.1 C.2.1 dX7_laysText_4 ?_
  refine lv_bipush (v := 14) C.1 C.2.1 dX7_laysText_5 (by decide) ?_
  refine lv_iadd C.1 C.2.1 dX7_laysText_7 ?_
  refine lv_aload_n C.1 C.2.1 dX7_laysText_8 rfl (lv_at hl 0 rfl) ?_
  refine lv_iload_n C.1 C.2.1 dX7_laysText_9 rfl (lv_at hl 1 rfl) ?_
  refine lv_bipush (v := 12) C.1 C.2.1 dX7_laysText_10 (by decide) ?_
  obtain ⟨r1, hc, h⟩ := bS h
  refine r_V1 C hK hX hb hP hS hl.1 (kX7_of (hT) hc) hT cl_7 wd_1197 mo_X7_of wd_1199 wd_24 ⟨Nat.le_of_ble_eq_true rfl, Nat.le_of_ble_eq_true rfl⟩ ⟨Nat.le_of_ble_eq_true rfl, Nat.le_of_ble_eq_true rfl⟩ rfl (rest := [.int ((30 * a1) + 14), .ref a0]) rfl (Nat.le_of_ble_eq_true rfl) dX7_laysText_12 (fun H locs hP hS => ?_)
  obtain ⟨r2, hc, h⟩ := bS h
  refine r_V0 C hK hX hb hP hS hl.1 (kX7_lays (hT) hc) hT cl_7 wd_1299 mo_X7_lays wd_1301 wd_42 ⟨Nat.le_of_ble_eq_true rfl, Nat.le_of_ble_eq_true rfl⟩ ⟨Nat.le_of_ble_eq_true rfl, Nat.le_of_ble_eq_true rfl⟩ rfl (rest := []) rfl (Nat.le_of_ble_eq_true rfl) dX7_laysText_15 (fun H locs hP hS => ?_)
  have e := Option.some.inj h
  exact q_v C hlk hP hS hr rfl e.symm dX7_laysText_18
theorem dX7_laysLabel_0 : decode cX7_laysLabel 0 = .ok (.aload_n 0, 1) := by decide +kernel
theorem dX7_laysLabel_1 : decode cX7_laysLabel 1 = .ok (.bipush 30, 2) := by decide +kernel
theorem dX7_laysLabel_3 : decode cX7_laysLabel 3 = .ok (.iload_n 1, 1) := by decide +kernel
theorem dX7_laysLabel_4 : decode cX7_laysLabel 4 = .ok (.imul, 1) := by decide +kernel
theorem dX7_laysLabel_5 : decode cX7_laysLabel 5 = .ok (.bipush 22, 2) := by decide +kernel
theorem dX7_laysLabel_7 : decode cX7_laysLabel 7 = .ok (.iadd, 1) := by decide +kernel
theorem dX7_laysLabel_8 : decode cX7_laysLabel 8 = .ok (.aload_n 0, 1) := by decide +kernel
theorem dX7_laysLabel_9 : decode cX7_laysLabel 9 = .ok (.iload_n 1, 1) := by decide +kernel
theorem dX7_laysLabel_10 : decode cX7_laysLabel 10 = .ok (.bipush 13, 2) := by decide +kernel
theorem dX7_laysLabel_12 : decode cX7_laysLabel 12 = .ok (.invokevirtual 40, 3) := by decide +kernel
theorem dX7_laysLabel_15 : decode cX7_laysLabel 15 = .ok (.invokevirtual 61, 3) := by decide +kernel
theorem dX7_laysLabel_18 : decode cX7_laysLabel 18 = .ok (.return_, 1) := by decide +kernel
abbrev rmX7_laysLabel : Room := { frames := 2, cells := 0, slots := 0, locals := 63 }
noncomputable def fX7_laysLabel (n : Nat) (Sh : Sp) (M : Mm) (a0 : Nat) (a1 : Int32) : Option Mm :=
  (fX7_of n Sh M a0 a1 13).bind fun r1 =>
  (fX7_lays n Sh M a0 ((30 * a1) + 22) r1).bind fun r2 =>
  some r2
set_option maxRecDepth 100000 in
set_option maxHeartbeats 4000000 in
theorem kX7_laysLabel {l : Launch} {G : Gt} {n : Nat} {Sh : Sp} {M : Mm} {a0 : Nat} {a1 : Int32} (hT : Sh a0 = some (.inl 7)) {r : Mm} (h : fX7_laysLabel n Sh M a0 a1 = some r) : Ct l yX7_laysLabel cX7_laysLabel 2 none rmX7_laysLabel G Sh M [.ref a0, .int a1] none r := by
  refine Ct.of (by decide) (Nat.le_of_ble_eq_true rfl) ?_
  intro p e s m args below meth c ls C hK hX hP hS hb hlk hr hl
  replace hl : lv_has ls 2 [(0, .ref a0), (1, .int a1)] := hl
  unfold fX7_laysLabel at h
  refine lv_aload_n C.1 C.2.1 dX7_laysLabel_0 rfl (lv_at hl 0 rfl) ?_
  refine lv_bipush (v := 30) C.1 C.2.1 dX7_laysLabel_1 (by decide) ?_
  refine lv_iload_n C.1 C.2.1 dX7_laysLabel_3 rfl (lv_at hl 1 rfl) ?_
  refine lv_imul C.1 C.2.1 dX7_laysLabel_4 ?_
  refine lv_bipush (v := 22) C.1 C.2.1 dX7_laysLabel_5 (by decide) ?_
  refine lv_iadd C.1 C.2.1 dX7_laysLabel_7 ?_
  refine lv_aload_n C.1 C.2.1 dX7_laysLabel_8 rfl (lv_at hl 0 rfl) ?_
  refine lv_iload_n C.1 C.2.1 dX7_laysLabel_9 rfl (lv_at hl 1 rfl) ?_
  refine lv_bipush (v := 13) C.1 C.2.1 dX7_laysLabel_10 (by decide) ?_
  obtain ⟨r1, hc, h⟩ := bS h
  refine r_V1 C hK hX hb hP hS hl.1 (kX7_of (hT) hc) hT cl_7 wd_1197 mo_X7_of wd_1199 wd_24 ⟨Nat.le_of_ble_eq_true rfl, Nat.le_of_ble_eq_true rfl⟩ ⟨Nat.le_of_ble_eq_true rfl, Nat.le_of_ble_eq_true rfl⟩ rfl (rest := [.int ((30 * a1) + 22), .ref a0]) rfl (Nat.le_of_ble_eq_true rfl) dX7_laysLabel_12 (fun H locs hP hS => ?_)
  obtain ⟨r2, hc, h⟩ := bS h
  refine r_V0 C hK hX hb hP hS hl.1 (kX7_lays (hT) hc) hT cl_7 wd_1299 mo_X7_lays wd_1301 wd_42 ⟨Nat.le_of_ble_eq_true rfl, Nat.le_of_ble_eq_true rfl⟩ ⟨Nat.le_of_ble_eq_true rfl, Nat.le_of_ble_eq_true rfl⟩ rfl (rest := []) rfl (Nat.le_of_ble_eq_true rfl) dX7_laysLabel_15 (fun H locs hP hS => ?_)
  have e := Option.some.inj h
  exact q_v C hlk hP hS hr rfl e.symm dX7_laysLabel_18
theorem dX7_hasText_0 : decode cX7_hasText 0 = .ok (.aload_n 0, 1) := by decide +kernel
theorem dX7_hasText_1 : decode cX7_hasText 1 = .ok (.iload_n 1, 1) := by decide +kernel
theorem dX7_hasText_2 : decode cX7_hasText 2 = .ok (.iconst 3, 1) := by decide +kernel
theorem dX7_hasText_3 : decode cX7_hasText 3 = .ok (.invokevirtual 40, 3) := by decide +kernel
theorem dX7_hasText_6 : decode cX7_hasText 6 = .ok (.iconst 1, 1) := by decide +kernel
theorem dX7_hasText_7 : decode cX7_hasText 7 = .ok (.if_icmp .eq 13, 3) := by decide +kernel
theorem dX7_hasText_10 : decode cX7_hasText 10 = .ok (.aload_n 0, 1) := by decide +kernel
theorem dX7_hasText_11 : decode cX7_hasText 11 = .ok (.iload_n 1, 1) := by decide +kernel
theorem dX7_hasText_12 : decode cX7_hasText 12 = .ok (.iconst 3, 1) := by decide +kernel
theorem dX7_hasText_13 : decode cX7_hasText 13 = .ok (.invokevirtual 40, 3) := by decide +kernel
theorem dX7_hasText_16 : decode cX7_hasText 16 = .ok (.iconst 5, 1) := by decide +kernel
theorem dX7_hasText_17 : decode cX7_hasText 17 = .ok (.if_icmp .ne 7, 3) := by decide +kernel
theorem dX7_hasText_20 : decode cX7_hasText 20 = .ok (.iconst 1, 1) := by decide +kernel
theorem dX7_hasText_21 : decode cX7_hasText 21 = .ok (.goto 4, 3) := by decide +kernel
theorem dX7_hasText_24 : decode cX7_hasText 24 = .ok (.iconst 0, 1) := by decide +kernel
theorem dX7_hasText_25 : decode cX7_hasText 25 = .ok (.ireturn, 1) := by decide +kernel
abbrev rmX7_hasText : Room := { frames := 2, cells := 0, slots := 0, locals := 62 }
noncomputable def fX7_hasText_20 (n : Nat) (Sh : Sp) (M : Mm) (a0 : Nat) (a1 : Int32) : Option Int32 :=
  some 1
noncomputable def fX7_hasText (n : Nat) (Sh : Sp) (M : Mm) (a0 : Nat) (a1 : Int32) : Option Int32 :=
  (fX7_of n Sh M a0 a1 3).bind fun r1 =>
  if r1 = 1 then
    fX7_hasText_20 n Sh M a0 a1
  else
    (fX7_of n Sh M a0 a1 3).bind fun r2 =>
    if r2 = 5 then
      fX7_hasText_20 n Sh M a0 a1
    else
      some 0
set_option maxRecDepth 100000 in
set_option maxHeartbeats 4000000 in
theorem kX7_hasText {l : Launch} {G : Gt} {n : Nat} {Sh : Sp} {M : Mm} {a0 : Nat} {a1 : Int32} (hT : Sh a0 = some (.inl 7)) {r : Int32} (h : fX7_hasText n Sh M a0 a1 = some r) : Ct l yX7_hasText cX7_hasText 2 (some .boolean) rmX7_hasText G Sh M [.ref a0, .int a1] (some (.int r)) M := by
  refine Ct.of (by decide) (Nat.le_of_ble_eq_true rfl) ?_
  intro p e s m args below meth c ls C hK hX hP hS hb hlk hr hl
  replace hl : lv_has ls 2 [(0, .ref a0), (1, .int a1)] := hl
  have J20 : ∀ (H : Heap) (locs : List Loc) (ls : Array Slot), HM G Sh M H → SS G s s.heap.size H locs → lv_has ls 2 [(0, .ref a0), (1, .int a1)] → fX7_hasText_20 n Sh M a0 a1 = some r → W p l e rmX7_hasText s m args below meth c H locs 0 0 (MQ below (QG G Sh M (some (.int r))) args s rmX7_hasText.cells rmX7_hasText.slots (AA G)) (F0 m 20 ls []) := by
    intro  H locs ls hP hS hl h
    unfold fX7_hasText_20 at h
    refine lv_iconst (v := 1) C.1 C.2.1 dX7_hasText_20 (by decide) ?_
    refine lv_goto (tgt := 25) C.1 C.2.1 dX7_hasText_21 (by decide) ?_
    have e := Option.some.inj h
    exact q_z C hlk hP hS hr (by decide) (by rw [← e]) rfl dX7_hasText_25
  unfold fX7_hasText at h
  refine lv_aload_n C.1 C.2.1 dX7_hasText_0 rfl (lv_at hl 0 rfl) ?_
  refine lv_iload_n C.1 C.2.1 dX7_hasText_1 rfl (lv_at hl 1 rfl) ?_
  refine lv_iconst (v := 3) C.1 C.2.1 dX7_hasText_2 (by decide) ?_
  obtain ⟨r1, hc, h⟩ := bS h
  refine r_V1 C hK hX hb hP hS hl.1 (kX7_of (hT) hc) hT cl_7 wd_1197 mo_X7_of wd_1199 wd_24 ⟨Nat.le_of_ble_eq_true rfl, Nat.le_of_ble_eq_true rfl⟩ ⟨Nat.le_of_ble_eq_true rfl, Nat.le_of_ble_eq_true rfl⟩ rfl (rest := []) rfl (Nat.le_of_ble_eq_true rfl) dX7_hasText_3 (fun H locs hP hS => ?_)
  refine lv_iconst (v := 1) C.1 C.2.1 dX7_hasText_6 (by decide) ?_
  refine b_ieq (tgt := 20) C dX7_hasText_7 (by decide) h (fun h => ?_) (fun h => ?_)
  · exact J20  _ _ _ hP hS (lv_sub hl [0, 1] rfl) h
  · refine lv_aload_n C.1 C.2.1 dX7_hasText_10 rfl (lv_at hl 0 rfl) ?_
    refine lv_iload_n C.1 C.2.1 dX7_hasText_11 rfl (lv_at hl 1 rfl) ?_
    refine lv_iconst (v := 3) C.1 C.2.1 dX7_hasText_12 (by decide) ?_
    obtain ⟨r2, hc, h⟩ := bS h
    refine r_V1 C hK hX hb hP hS hl.1 (kX7_of (hT) hc) hT cl_7 wd_1197 mo_X7_of wd_1199 wd_24 ⟨Nat.le_of_ble_eq_true rfl, Nat.le_of_ble_eq_true rfl⟩ ⟨Nat.le_of_ble_eq_true rfl, Nat.le_of_ble_eq_true rfl⟩ rfl (rest := []) rfl (Nat.le_of_ble_eq_true rfl) dX7_hasText_13 (fun H locs hP hS => ?_)
    refine lv_iconst (v := 5) C.1 C.2.1 dX7_hasText_16 (by decide) ?_
    refine b_ine (tgt := 24) C dX7_hasText_17 (by decide) h (fun h => ?_) (fun h => ?_)
    · exact J20  _ _ _ hP hS (lv_sub hl [0, 1] rfl) h
    · refine lv_iconst (v := 0) C.1 C.2.1 dX7_hasText_24 (by decide) ?_
      have e := Option.some.inj h
      exact q_z C hlk hP hS hr (by decide) (by rw [← e]) rfl dX7_hasText_25
theorem dX7_laysContent_0 : decode cX7_laysContent 0 = .ok (.aload_n 0, 1) := by decide +kernel
theorem dX7_laysContent_1 : decode cX7_laysContent 1 = .ok (.iload_n 1, 1) := by decide +kernel
theorem dX7_laysContent_2 : decode cX7_laysContent 2 = .ok (.invokevirtual 65, 3) := by decide +kernel
theorem dX7_laysContent_5 : decode cX7_laysContent 5 = .ok (.ifCond .eq 9, 3) := by decide +kernel
theorem dX7_laysContent_8 : decode cX7_laysContent 8 = .ok (.aload_n 0, 1) := by decide +kernel
theorem dX7_laysContent_9 : decode cX7_laysContent 9 = .ok (.iload_n 1, 1) := by decide +kernel
theorem dX7_laysContent_10 : decode cX7_laysContent 10 = .ok (.invokevirtual 68, 3) := by decide +kernel
theorem dX7_laysContent_13 : decode cX7_laysContent 13 = .ok (.return_, 1) := by decide +kernel
theorem dX7_laysContent_14 : decode cX7_laysContent 14 = .ok (.aload_n 0, 1) := by decide +kernel
theorem dX7_laysContent_15 : decode cX7_laysContent 15 = .ok (.iload_n 1, 1) := by decide +kernel
theorem dX7_laysContent_16 : decode cX7_laysContent 16 = .ok (.iconst 3, 1) := by decide +kernel
theorem dX7_laysContent_17 : decode cX7_laysContent 17 = .ok (.invokevirtual 40, 3) := by decide +kernel
theorem dX7_laysContent_20 : decode cX7_laysContent 20 = .ok (.iconst 4, 1) := by decide +kernel
theorem dX7_laysContent_21 : decode cX7_laysContent 21 = .ok (.if_icmp .ne 7, 3) := by decide +kernel
theorem dX7_laysContent_24 : decode cX7_laysContent 24 = .ok (.iconst (-1), 1) := by decide +kernel
theorem dX7_laysContent_25 : decode cX7_laysContent 25 = .ok (.goto 9, 3) := by decide +kernel
theorem dX7_laysContent_28 : decode cX7_laysContent 28 = .ok (.aload_n 0, 1) := by decide +kernel
theorem dX7_laysContent_29 : decode cX7_laysContent 29 = .ok (.iload_n 1, 1) := by decide +kernel
theorem dX7_laysContent_30 : decode cX7_laysContent 30 = .ok (.iconst 0, 1) := by decide +kernel
theorem dX7_laysContent_31 : decode cX7_laysContent 31 = .ok (.invokevirtual 44, 3) := by decide +kernel
theorem dX7_laysContent_34 : decode cX7_laysContent 34 = .ok (.istore_n 2, 1) := by decide +kernel
theorem dX7_laysContent_35 : decode cX7_laysContent 35 = .ok (.iload_n 2, 1) := by decide +kernel
theorem dX7_laysContent_36 : decode cX7_laysContent 36 = .ok (.iconst (-1), 1) := by decide +kernel
theorem dX7_laysContent_37 : decode cX7_laysContent 37 = .ok (.if_icmp .eq 104, 3) := by decide +kernel
theorem dX7_laysContent_40 : decode cX7_laysContent 40 = .ok (.aload_n 0, 1) := by decide +kernel
theorem dX7_laysContent_41 : decode cX7_laysContent 41 = .ok (.iload_n 2, 1) := by decide +kernel
theorem dX7_laysContent_42 : decode cX7_laysContent 42 = .ok (.invokevirtual 50, 3) := by decide +kernel
theorem dX7_laysContent_45 : decode cX7_laysContent 45 = .ok (.ifCond .ne 35, 3) := by decide +kernel
theorem dX7_laysContent_48 : decode cX7_laysContent 48 = .ok (.aload_n 0, 1) := by decide +kernel
theorem dX7_laysContent_49 : decode cX7_laysContent 49 = .ok (.iload_n 2, 1) := by decide +kernel
theorem dX7_laysContent_50 : decode cX7_laysContent 50 = .ok (.bipush 13, 2) := by decide +kernel
theorem dX7_laysContent_52 : decode cX7_laysContent 52 = .ok (.invokevirtual 40, 3) := by decide +kernel
theorem dX7_laysContent_55 : decode cX7_laysContent 55 = .ok (.ifCond .ne 25, 3) := by decide +kernel
theorem dX7_laysContent_58 : decode cX7_laysContent 58 = .ok (.aload_n 0, 1) := by decide +kernel
theorem dX7_laysContent_59 : decode cX7_laysContent 59 = .ok (.iload_n 2, 1) := by decide +kernel
theorem dX7_laysContent_60 : decode cX7_laysContent 60 = .ok (.invokevirtual 65, 3) := by decide +kernel
theorem dX7_laysContent_63 : decode cX7_laysContent 63 = .ok (.ifCond .ne 17, 3) := by decide +kernel
theorem dX7_laysContent_66 : decode cX7_laysContent 66 = .ok (.aload_n 0, 1) := by decide +kernel
theorem dX7_laysContent_67 : decode cX7_laysContent 67 = .ok (.iload_n 2, 1) := by decide +kernel
theorem dX7_laysContent_68 : decode cX7_laysContent 68 = .ok (.iconst 3, 1) := by decide +kernel
theorem dX7_laysContent_69 : decode cX7_laysContent 69 = .ok (.invokevirtual 40, 3) := by decide +kernel
theorem dX7_laysContent_72 : decode cX7_laysContent 72 = .ok (.iconst 4, 1) := by decide +kernel
theorem dX7_laysContent_73 : decode cX7_laysContent 73 = .ok (.if_icmp .eq 7, 3) := by decide +kernel
theorem dX7_laysContent_76 : decode cX7_laysContent 76 = .ok (.iconst 1, 1) := by decide +kernel
theorem dX7_laysContent_77 : decode cX7_laysContent 77 = .ok (.goto 4, 3) := by decide +kernel
theorem dX7_laysContent_80 : decode cX7_laysContent 80 = .ok (.iconst 0, 1) := by decide +kernel
theorem dX7_laysContent_81 : decode cX7_laysContent 81 = .ok (.istore_n 3, 1) := by decide +kernel
theorem dX7_laysContent_82 : decode cX7_laysContent 82 = .ok (.aload_n 0, 1) := by decide +kernel
theorem dX7_laysContent_83 : decode cX7_laysContent 83 = .ok (.iload_n 2, 1) := by decide +kernel
theorem dX7_laysContent_84 : decode cX7_laysContent 84 = .ok (.invokevirtual 50, 3) := by decide +kernel
theorem dX7_laysContent_87 : decode cX7_laysContent 87 = .ok (.ifCond .ne 31, 3) := by decide +kernel
theorem dX7_laysContent_90 : decode cX7_laysContent 90 = .ok (.aload_n 0, 1) := by decide +kernel
theorem dX7_laysContent_91 : decode cX7_laysContent 91 = .ok (.iload_n 2, 1) := by decide +kernel
theorem dX7_laysContent_92 : decode cX7_laysContent 92 = .ok (.invokevirtual 72, 3) := by decide +kernel
theorem dX7_laysContent_95 : decode cX7_laysContent 95 = .ok (.aload_n 0, 1) := by decide +kernel
theorem dX7_laysContent_96 : decode cX7_laysContent 96 = .ok (.iload_n 2, 1) := by decide +kernel
theorem dX7_laysContent_97 : decode cX7_laysContent 97 = .ok (.bipush 13, 2) := by decide +kernel
theorem dX7_laysContent_99 : decode cX7_laysContent 99 = .ok (.invokevirtual 40, 3) := by decide +kernel
theorem dX7_laysContent_102 : decode cX7_laysContent 102 = .ok (.ifCond .ne 16, 3) := by decide +kernel
theorem dX7_laysContent_105 : decode cX7_laysContent 105 = .ok (.aload_n 0, 1) := by decide +kernel
theorem dX7_laysContent_106 : decode cX7_laysContent 106 = .ok (.iload_n 2, 1) := by decide +kernel
theorem dX7_laysContent_107 : decode cX7_laysContent 107 = .ok (.invokevirtual 65, 3) := by decide +kernel
theorem dX7_laysContent_110 : decode cX7_laysContent 110 = .ok (.ifCond .eq 8, 3) := by decide +kernel
theorem dX7_laysContent_113 : decode cX7_laysContent 113 = .ok (.aload_n 0, 1) := by decide +kernel
theorem dX7_laysContent_114 : decode cX7_laysContent 114 = .ok (.iload_n 2, 1) := by decide +kernel
theorem dX7_laysContent_115 : decode cX7_laysContent 115 = .ok (.invokevirtual 68, 3) := by decide +kernel
theorem dX7_laysContent_118 : decode cX7_laysContent 118 = .ok (.iload_n 3, 1) := by decide +kernel
theorem dX7_laysContent_119 : decode cX7_laysContent 119 = .ok (.ifCond .eq 12, 3) := by decide +kernel
theorem dX7_laysContent_122 : decode cX7_laysContent 122 = .ok (.aload_n 0, 1) := by decide +kernel
theorem dX7_laysContent_123 : decode cX7_laysContent 123 = .ok (.iload_n 2, 1) := by decide +kernel
theorem dX7_laysContent_124 : decode cX7_laysContent 124 = .ok (.iload_n 1, 1) := by decide +kernel
theorem dX7_laysContent_125 : decode cX7_laysContent 125 = .ok (.invokevirtual 75, 3) := by decide +kernel
theorem dX7_laysContent_128 : decode cX7_laysContent 128 = .ok (.goto 9, 3) := by decide +kernel
theorem dX7_laysContent_131 : decode cX7_laysContent 131 = .ok (.aload_n 0, 1) := by decide +kernel
theorem dX7_laysContent_132 : decode cX7_laysContent 132 = .ok (.iload_n 2, 1) := by decide +kernel
theorem dX7_laysContent_133 : decode cX7_laysContent 133 = .ok (.iload_n 1, 1) := by decide +kernel
theorem dX7_laysContent_134 : decode cX7_laysContent 134 = .ok (.invokevirtual 47, 3) := by decide +kernel
theorem dX7_laysContent_137 : decode cX7_laysContent 137 = .ok (.istore_n 2, 1) := by decide +kernel
theorem dX7_laysContent_138 : decode cX7_laysContent 138 = .ok (.goto (-103), 3) := by decide +kernel
theorem dX7_laysContent_141 : decode cX7_laysContent 141 = .ok (.return_, 1) := by decide +kernel
abbrev rmX7_laysContent : Room := { frames := 5, cells := 0, slots := 0, locals := 132 }
noncomputable def fX7_laysContent_137 (n : Nat) (Sh : Sp) (a0 : Nat) (a1 : Int32) (M : Mm) (t0 : Int32) : Option ((Int32 × Mm) ⊕ Mm) :=
  some (Sum.inl (t0, M))
noncomputable def fX7_laysContent_118 (n : Nat) (Sh : Sp) (a0 : Nat) (a1 : Int32) (M : Mm) (v2 : Int32) (v3 : Int32) : Option ((Int32 × Mm) ⊕ Mm) :=
  if v3 = 0 then
    (fX7_behind n Sh M a0 v2 a1).bind fun r1 =>
    fX7_laysContent_137 n Sh a0 a1 M r1
  else
    (fX7_following n Sh M a0 v2 a1).bind fun r2 =>
    fX7_laysContent_137 n Sh a0 a1 M r2
noncomputable def fX7_laysContent_81 (n : Nat) (Sh : Sp) (a0 : Nat) (a1 : Int32) (M : Mm) (v2 : Int32) (t0 : Int32) : Option ((Int32 × Mm) ⊕ Mm) :=
  (fX7_isOut n Sh M a0 v2).bind fun r3 =>
  if r3 = 0 then
    (fX7_laysLabel n Sh M a0 v2).bind fun r4 =>
    (fX7_of n Sh r4 a0 v2 13).bind fun r5 =>
    if r5 = 0 then
      (fX7_hasText n Sh r4 a0 v2).bind fun r6 =>
      if r6 = 0 then
        fX7_laysContent_118 n Sh a0 a1 r4 v2 t0
      else
        (fX7_laysText n Sh r4 a0 v2).bind fun r7 =>
        fX7_laysContent_118 n Sh a0 a1 r7 v2 t0
    else
      fX7_laysContent_118 n Sh a0 a1 r4 v2 t0
  else
    fX7_laysContent_118 n Sh a0 a1 M v2 t0
noncomputable def fX7_laysContent_80 (n : Nat) (Sh : Sp) (a0 : Nat) (a1 : Int32) (M : Mm) (v2 : Int32) : Option ((Int32 × Mm) ⊕ Mm) :=
  fX7_laysContent_81 n Sh a0 a1 M v2 0
noncomputable def fX7_laysContent_35b (n : Nat) (Sh : Sp) (a0 : Nat) (a1 : Int32) (M : Mm) (v2 : Int32) : Option ((Int32 × Mm) ⊕ Mm) :=
  if v2 = (-1) then
    some (Sum.inr M)
  else
    (fX7_isOut n Sh M a0 v2).bind fun r8 =>
    if r8 = 0 then
      (fX7_of n Sh M a0 v2 13).bind fun r9 =>
      if r9 = 0 then
        (fX7_hasText n Sh M a0 v2).bind fun r10 =>
        if r10 = 0 then
          (fX7_of n Sh M a0 v2 3).bind fun r11 =>
          if r11 = 4 then
            fX7_laysContent_80 n Sh a0 a1 M v2
          else
            fX7_laysContent_81 n Sh a0 a1 M v2 1
        else
          fX7_laysContent_80 n Sh a0 a1 M v2
      else
        fX7_laysContent_80 n Sh a0 a1 M v2
    else
      fX7_laysContent_80 n Sh a0 a1 M v2
noncomputable def fX7_laysContent_35 (n : Nat) (Sh : Sp) (a0 : Nat) (a1 : Int32) (M : Mm) (v2 : Int32) : Option Mm :=
  iter n (fun s => fX7_laysContent_35b n Sh a0 a1 s.2 s.1) (v2, M)
noncomputable def fX7_laysContent_34 (n : Nat) (Sh : Sp) (a0 : Nat) (a1 : Int32) (M : Mm) (t0 : Int32) : Option Mm :=
  fX7_laysContent_35 n Sh a0 a1 M t0
noncomputable def fX7_laysContent (n : Nat) (Sh : Sp) (M : Mm) (a0 : Nat) (a1 : Int32) : Option Mm :=
  (fX7_hasText n Sh M a0 a1).bind fun r12 =>
  if r12 = 0 then
    (fX7_of n Sh M a0 a1 3).bind fun r13 =>
    if r13 = 4 then
      fX7_laysContent_34 n Sh a0 a1 M (-1)
    else
      (fX7_childAt n Sh M a0 a1 0).bind fun r14 =>
      fX7_laysContent_34 n Sh a0 a1 M r14
  else
    (fX7_laysText n Sh M a0 a1).bind fun r15 =>
    some r15
set_option maxRecDepth 100000 in
set_option maxHeartbeats 4000000 in
theorem kX7_laysContent {l : Launch} {G : Gt} {n : Nat} {Sh : Sp} {M : Mm} {a0 : Nat} {a1 : Int32} (hT : Sh a0 = some (.inl 7)) {r : Mm} (h : fX7_laysContent n Sh M a0 a1 = some r) : Ct l yX7_laysContent cX7_laysContent 4 none rmX7_laysContent G Sh M [.ref a0, .int a1] none r := by
  refine Ct.of (by decide) (Nat.le_of_ble_eq_true rfl) ?_
  intro p e s m args below meth c ls C hK hX hP hS hb hlk hr hl
  replace hl : lv_has ls 4 [(0, .ref a0), (1, .int a1)] := hl
  have J35 : ∀ (k : Nat) (v2 : Int32) (M : Mm) (H : Heap) (locs : List Loc) (ls : Array Slot), HM G Sh M H → SS G s s.heap.size H locs → lv_has ls 4 [(0, .ref a0), (1, .int a1), (2, .int v2)] → iter k (fun s => fX7_laysContent_35b n Sh a0 a1 s.2 s.1) (v2, M) = some r → W p l e rmX7_laysContent s m args below meth c H locs 0 0 (MQ below (QG G Sh r none) args s rmX7_laysContent.cells rmX7_laysContent.slots (AA G)) (F0 m 35 ls []) := by
    intro k
    induction k with
    | zero => intro v2 M H locs ls hP hS hl h; exact (iter_0 h).elim
    | succ k ih1 =>
      intro v2 M H locs ls hP hS hl h
      obtain ⟨z1, h, hz1⟩ := iter_some h
      replace h : fX7_laysContent_35b n Sh a0 a1 M v2 = some z1 := h
      have J137 : ∀ (M : Mm) (t0 : Int32) (H : Heap) (locs : List Loc) (ls : Array Slot), HM G Sh M H → SS G s s.heap.size H locs → lv_has ls 4 [(0, .ref a0), (1, .int a1)] → fX7_laysContent_137 n Sh a0 a1 M t0 = some z1 → W p l e rmX7_laysContent s m args below meth c H locs 0 0 (MQ below (QG G Sh r none) args s rmX7_laysContent.cells rmX7_laysContent.slots (AA G)) (F0 m 137 ls [.int t0]) := by
        intro M t0 H locs ls hP hS hl h
        unfold fX7_laysContent_137 at h
        refine lv_istore_n (lv' := [(2, .int t0), (0, .ref a0), (1, .int a1)]) C.1 C.2.1 dX7_laysContent_137 rfl hl (by decide) rfl (fun ls hl => ?_)
        refine lv_goto (tgt := 35) C.1 C.2.1 dX7_laysContent_138 (by decide) ?_
        have e := Option.some.inj h
        rw [← e] at hz1
        exact ih1 (t0) M _ _ _ hP hS (lv_sub hl [1, 2, 0] rfl) (itK_inl hz1)
      have J118 : ∀ (M : Mm) (v2 : Int32) (v3 : Int32) (H : Heap) (locs : List Loc) (ls : Array Slot), HM G Sh M H → SS G s s.heap.size H locs → lv_has ls 4 [(0, .ref a0), (1, .int a1), (2, .int v2), (3, .int v3)] → fX7_laysContent_118 n Sh a0 a1 M v2 v3 = some z1 → W p l e rmX7_laysContent s m args below meth c H locs 0 0 (MQ below (QG G Sh r none) args s rmX7_laysContent.cells rmX7_laysContent.slots (AA G)) (F0 m 118 ls []) := by
        intro M v2 v3 H locs ls hP hS hl h
        unfold fX7_laysContent_118 at h
        refine lv_iload_n C.1 C.2.1 dX7_laysContent_118 rfl (lv_at hl 3 rfl) ?_
        refine b_eq (tgt := 131) C dX7_laysContent_119 (by decide) h (fun h => ?_) (fun h => ?_)
        · refine lv_aload_n C.1 C.2.1 dX7_laysContent_131 rfl (lv_at hl 0 rfl) ?_
          refine lv_iload_n C.1 C.2.1 dX7_laysContent_132 rfl (lv_at hl 2 rfl) ?_
          refine lv_iload_n C.1 C.2.1 dX7_laysContent_133 rfl (lv_at hl 1 rfl) ?_
          obtain ⟨r1, hc, h⟩ := bS h
          refine r_V1 C hK hX hb hP hS hl.1 (kX7_behind (hT) hc) hT cl_7 wd_1323 mo_X7_behind wd_1325 wd_48 ⟨Nat.le_of_ble_eq_true rfl, Nat.le_of_ble_eq_true rfl⟩ ⟨Nat.le_of_ble_eq_true rfl, Nat.le_of_ble_eq_true rfl⟩ rfl (rest := []) rfl (Nat.le_of_ble_eq_true rfl) dX7_laysContent_134 (fun H locs hP hS => ?_)
          exact J137 (M) (r1) _ _ _ hP hS (lv_sub hl [0, 1] rfl) h
        · refine lv_aload_n C.1 C.2.1 dX7_laysContent_122 rfl (lv_at hl 0 rfl) ?_
          refine lv_iload_n C.1 C.2.1 dX7_laysContent_123 rfl (lv_at hl 2 rfl) ?_
          refine lv_iload_n C.1 C.2.1 dX7_laysContent_124 rfl (lv_at hl 1 rfl) ?_
          obtain ⟨r2, hc, h⟩ := bS h
          refine r_V1 C hK hX hb hP hS hl.1 (kX7_following (hT) hc) hT cl_7 wd_1319 mo_X7_following wd_1321 wd_47 ⟨Nat.le_of_ble_eq_true rfl, Nat.le_of_ble_eq_true rfl⟩ ⟨Nat.le_of_ble_eq_true rfl, Nat.le_of_ble_eq_true rfl⟩ rfl (rest := []) rfl (Nat.le_of_ble_eq_true rfl) dX7_laysContent_125 (fun H locs hP hS => ?_)
          refine lv_goto (tgt := 137) C.1 C.2.1 dX7_laysContent_128 (by decide) ?_
          exact J137 (M) (r2) _ _ _ hP hS (lv_sub hl [0, 1] rfl) h
      have J81 : ∀ (M : Mm) (v2 : Int32) (t0 : Int32) (H : Heap) (locs : List Loc) (ls : Array Slot), HM G Sh M H → SS G s s.heap.size H locs → lv_has ls 4 [(0, .ref a0), (1, .int a1), (2, .int v2)] → fX7_laysContent_81 n Sh a0 a1 M v2 t0 = some z1 → W p l e rmX7_laysContent s m args below meth c H locs 0 0 (MQ below (QG G Sh r none) args s rmX7_laysContent.cells rmX7_laysContent.slots (AA G)) (F0 m 81 ls [.int t0]) := by
        intro M v2 t0 H locs ls hP hS hl h
        unfold fX7_laysContent_81 at h
        refine lv_istore_n (lv' := [(3, .int t0), (0, .ref a0), (1, .int a1), (2, .int v2)]) C.1 C.2.1 dX7_laysContent_81 rfl hl (by decide) rfl (fun ls hl => ?_)
        refine lv_aload_n C.1 C.2.1 dX7_laysContent_82 rfl (lv_at hl 1 rfl) ?_
        refine lv_iload_n C.1 C.2.1 dX7_laysContent_83 rfl (lv_at hl 3 rfl) ?_
        obtain ⟨r3, hc, h⟩ := bS h
        refine r_V1 C hK hX hb hP hS hl.1 (kX7_isOut (hT) hc) hT cl_7 wd_1260 mo_X7_isOut wd_1262 wd_35 ⟨Nat.le_of_ble_eq_true rfl, Nat.le_of_ble_eq_true rfl⟩ ⟨Nat.le_of_ble_eq_true rfl, Nat.le_of_ble_eq_true rfl⟩ rfl (rest := []) rfl (Nat.le_of_ble_eq_true rfl) dX7_laysContent_84 (fun H locs hP hS => ?_)
        refine b_ne (tgt := 118) C dX7_laysContent_87 (by decide) h (fun h => ?_) (fun h => ?_)
        · refine lv_aload_n C.1 C.2.1 dX7_laysContent_90 rfl (lv_at hl 1 rfl) ?_
          refine lv_iload_n C.1 C.2.1 dX7_laysContent_91 rfl (lv_at hl 3 rfl) ?_
          obtain ⟨r4, hc, h⟩ := bS h
          refine r_V0 C hK hX hb hP hS hl.1 (kX7_laysLabel (hT) hc) hT cl_7 wd_1303 mo_X7_laysLabel wd_1305 wd_43 ⟨Nat.le_of_ble_eq_true rfl, Nat.le_of_ble_eq_true rfl⟩ ⟨Nat.le_of_ble_eq_true rfl, Nat.le_of_ble_eq_true rfl⟩ rfl (rest := []) rfl (Nat.le_of_ble_eq_true rfl) dX7_laysContent_92 (fun H locs hP hS => ?_)
          refine lv_aload_n C.1 C.2.1 dX7_laysContent_95 rfl (lv_at hl 1 rfl) ?_
          refine lv_iload_n C.1 C.2.1 dX7_laysContent_96 rfl (lv_at hl 3 rfl) ?_
          refine lv_bipush (v := 13) C.1 C.2.1 dX7_laysContent_97 (by decide) ?_
          obtain ⟨r5, hc, h⟩ := bS h
          refine r_V1 C hK hX hb hP hS hl.1 (kX7_of (hT) hc) hT cl_7 wd_1197 mo_X7_of wd_1199 wd_24 ⟨Nat.le_of_ble_eq_true rfl, Nat.le_of_ble_eq_true rfl⟩ ⟨Nat.le_of_ble_eq_true rfl, Nat.le_of_ble_eq_true rfl⟩ rfl (rest := []) rfl (Nat.le_of_ble_eq_true rfl) dX7_laysContent_99 (fun H locs hP hS => ?_)
          refine b_ne (tgt := 118) C dX7_laysContent_102 (by decide) h (fun h => ?_) (fun h => ?_)
          · refine lv_aload_n C.1 C.2.1 dX7_laysContent_105 rfl (lv_at hl 1 rfl) ?_
            refine lv_iload_n C.1 C.2.1 dX7_laysContent_106 rfl (lv_at hl 3 rfl) ?_
            obtain ⟨r6, hc, h⟩ := bS h
            refine r_V1 C hK hX hb hP hS hl.1 (kX7_hasText (hT) hc) hT cl_7 wd_1315 mo_X7_hasText wd_1317 wd_46 ⟨Nat.le_of_ble_eq_true rfl, Nat.le_of_ble_eq_true rfl⟩ ⟨Nat.le_of_ble_eq_true rfl, Nat.le_of_ble_eq_true rfl⟩ rfl (rest := []) rfl (Nat.le_of_ble_eq_true rfl) dX7_laysContent_107 (fun H locs hP hS => ?_)
            refine b_eq (tgt := 118) C dX7_laysContent_110 (by decide) h (fun h => ?_) (fun h => ?_)
            · exact J118 (r4) (v2) (t0) _ _ _ hP hS (lv_sub hl [1, 2, 3, 0] rfl) h
            · refine lv_aload_n C.1 C.2.1 dX7_laysContent_113 rfl (lv_at hl 1 rfl) ?_
              refine lv_iload_n C.1 C.2.1 dX7_laysContent_114 rfl (lv_at hl 3 rfl) ?_
              obtain ⟨r7, hc, h⟩ := bS h
              refine r_V0 C hK hX hb hP hS hl.1 (kX7_laysText (hT) hc) hT cl_7 wd_1295 mo_X7_laysText wd_1297 wd_41 ⟨Nat.le_of_ble_eq_true rfl, Nat.le_of_ble_eq_true rfl⟩ ⟨Nat.le_of_ble_eq_true rfl, Nat.le_of_ble_eq_true rfl⟩ rfl (rest := []) rfl (Nat.le_of_ble_eq_true rfl) dX7_laysContent_115 (fun H locs hP hS => ?_)
              exact J118 (r7) (v2) (t0) _ _ _ hP hS (lv_sub hl [1, 2, 3, 0] rfl) h
          · exact J118 (r4) (v2) (t0) _ _ _ hP hS (lv_sub hl [1, 2, 3, 0] rfl) h
        · exact J118 (M) (v2) (t0) _ _ _ hP hS (lv_sub hl [1, 2, 3, 0] rfl) h
      have J80 : ∀ (M : Mm) (v2 : Int32) (H : Heap) (locs : List Loc) (ls : Array Slot), HM G Sh M H → SS G s s.heap.size H locs → lv_has ls 4 [(0, .ref a0), (1, .int a1), (2, .int v2)] → fX7_laysContent_80 n Sh a0 a1 M v2 = some z1 → W p l e rmX7_laysContent s m args below meth c H locs 0 0 (MQ below (QG G Sh r none) args s rmX7_laysContent.cells rmX7_laysContent.slots (AA G)) (F0 m 80 ls []) := by
        intro M v2 H locs ls hP hS hl h
        unfold fX7_laysContent_80 at h
        refine lv_iconst (v := 0) C.1 C.2.1 dX7_laysContent_80 (by decide) ?_
        exact J81 (M) (v2) (0) _ _ _ hP hS (lv_sub hl [0, 1, 2] rfl) h
      unfold fX7_laysContent_35b at h
      refine lv_iload_n C.1 C.2.1 dX7_laysContent_35 rfl (lv_at hl 2 rfl) ?_
      refine lv_iconst (v := (-1)) C.1 C.2.1 dX7_laysContent_36 (by decide) ?_
      refine b_ieq (tgt := 141) C dX7_laysContent_37 (by decide) h (fun h => ?_) (fun h => ?_)
      · have e := Option.some.inj h
        rw [← e] at hz1
        replace e := itK_inr hz1
        exact q_v C hlk hP hS hr rfl e.symm dX7_laysContent_141
      · refine lv_aload_n C.1 C.2.1 dX7_laysContent_40 rfl (lv_at hl 0 rfl) ?_
        refine lv_iload_n C.1 C.2.1 dX7_laysContent_41 rfl (lv_at hl 2 rfl) ?_
        obtain ⟨r8, hc, h⟩ := bS h
        refine r_V1 C hK hX hb hP hS hl.1 (kX7_isOut (hT) hc) hT cl_7 wd_1260 mo_X7_isOut wd_1262 wd_35 ⟨Nat.le_of_ble_eq_true rfl, Nat.le_of_ble_eq_true rfl⟩ ⟨Nat.le_of_ble_eq_true rfl, Nat.le_of_ble_eq_true rfl⟩ rfl (rest := []) rfl (Nat.le_of_ble_eq_true rfl) dX7_laysContent_42 (fun H locs hP hS => ?_)
        refine b_ne (tgt := 80) C dX7_laysContent_45 (by decide) h (fun h => ?_) (fun h => ?_)
        · refine lv_aload_n C.1 C.2.1 dX7_laysContent_48 rfl (lv_at hl 0 rfl) ?_
          refine lv_iload_n C.1 C.2.1 dX7_laysContent_49 rfl (lv_at hl 2 rfl) ?_
          refine lv_bipush (v := 13) C.1 C.2.1 dX7_laysContent_50 (by decide) ?_
          obtain ⟨r9, hc, h⟩ := bS h
          refine r_V1 C hK hX hb hP hS hl.1 (kX7_of (hT) hc) hT cl_7 wd_1197 mo_X7_of wd_1199 wd_24 ⟨Nat.le_of_ble_eq_true rfl, Nat.le_of_ble_eq_true rfl⟩ ⟨Nat.le_of_ble_eq_true rfl, Nat.le_of_ble_eq_true rfl⟩ rfl (rest := []) rfl (Nat.le_of_ble_eq_true rfl) dX7_laysContent_52 (fun H locs hP hS => ?_)
          refine b_ne (tgt := 80) C dX7_laysContent_55 (by decide) h (fun h => ?_) (fun h => ?_)
          · refine lv_aload_n C.1 C.2.1 dX7_laysContent_58 rfl (lv_at hl 0 rfl) ?_
            refine lv_iload_n C.1 C.2.1 dX7_laysContent_59 rfl (lv_at hl 2 rfl) ?_
            obtain ⟨r10, hc, h⟩ := bS h
            refine r_V1 C hK hX hb hP hS hl.1 (kX7_hasText (hT) hc) hT cl_7 wd_1315 mo_X7_hasText wd_1317 wd_46 ⟨Nat.le_of_ble_eq_true rfl, Nat.le_of_ble_eq_true rfl⟩ ⟨Nat.le_of_ble_eq_true rfl, Nat.le_of_ble_eq_true rfl⟩ rfl (rest := []) rfl (Nat.le_of_ble_eq_true rfl) dX7_laysContent_60 (fun H locs hP hS => ?_)
            refine b_ne (tgt := 80) C dX7_laysContent_63 (by decide) h (fun h => ?_) (fun h => ?_)
            · refine lv_aload_n C.1 C.2.1 dX7_laysContent_66 rfl (lv_at hl 0 rfl) ?_
              refine lv_iload_n C.1 C.2.1 dX7_laysContent_67 rfl (lv_at hl 2 rfl) ?_
              refine lv_iconst (v := 3) C.1 C.2.1 dX7_laysContent_68 (by decide) ?_
              obtain ⟨r11, hc, h⟩ := bS h
              refine r_V1 C hK hX hb hP hS hl.1 (kX7_of (hT) hc) hT cl_7 wd_1197 mo_X7_of wd_1199 wd_24 ⟨Nat.le_of_ble_eq_true rfl, Nat.le_of_ble_eq_true rfl⟩ ⟨Nat.le_of_ble_eq_true rfl, Nat.le_of_ble_eq_true rfl⟩ rfl (rest := []) rfl (Nat.le_of_ble_eq_true rfl) dX7_laysContent_69 (fun H locs hP hS => ?_)
              refine lv_iconst (v := 4) C.1 C.2.1 dX7_laysContent_72 (by decide) ?_
              refine b_ieq (tgt := 80) C dX7_laysContent_73 (by decide) h (fun h => ?_) (fun h => ?_)
              · exact J80 (M) (v2) _ _ _ hP hS (lv_sub hl [0, 1, 2] rfl) h
              · refine lv_iconst (v := 1) C.1 C.2.1 dX7_laysContent_76 (by decide) ?_
                refine lv_goto (tgt := 81) C.1 C.2.1 dX7_laysContent_77 (by decide) ?_
                exact J81 (M) (v2) (1) _ _ _ hP hS (lv_sub hl [0, 1, 2] rfl) h
            · exact J80 (M) (v2) _ _ _ hP hS (lv_sub hl [0, 1, 2] rfl) h
          · exact J80 (M) (v2) _ _ _ hP hS (lv_sub hl [0, 1, 2] rfl) h
        · exact J80 (M) (v2) _ _ _ hP hS (lv_sub hl [0, 1, 2] rfl) h
  have J34 : ∀ (M : Mm) (t0 : Int32) (H : Heap) (locs : List Loc) (ls : Array Slot), HM G Sh M H → SS G s s.heap.size H locs → lv_has ls 4 [(0, .ref a0), (1, .int a1)] → fX7_laysContent_34 n Sh a0 a1 M t0 = some r → W p l e rmX7_laysContent s m args below meth c H locs 0 0 (MQ below (QG G Sh r none) args s rmX7_laysContent.cells rmX7_laysContent.slots (AA G)) (F0 m 34 ls [.int t0]) := by
    intro M t0 H locs ls hP hS hl h
    unfold fX7_laysContent_34 at h
    refine lv_istore_n (lv' := [(2, .int t0), (0, .ref a0), (1, .int a1)]) C.1 C.2.1 dX7_laysContent_34 rfl hl (by decide) rfl (fun ls hl => ?_)
    exact J35  n (t0) M _ _ _ hP hS (lv_sub hl [1, 2, 0] rfl) h
  unfold fX7_laysContent at h
  refine lv_aload_n C.1 C.2.1 dX7_laysContent_0 rfl (lv_at hl 0 rfl) ?_
  refine lv_iload_n C.1 C.2.1 dX7_laysContent_1 rfl (lv_at hl 1 rfl) ?_
  obtain ⟨r12, hc, h⟩ := bS h
  refine r_V1 C hK hX hb hP hS hl.1 (kX7_hasText (hT) hc) hT cl_7 wd_1315 mo_X7_hasText wd_1317 wd_46 ⟨Nat.le_of_ble_eq_true rfl, Nat.le_of_ble_eq_true rfl⟩ ⟨Nat.le_of_ble_eq_true rfl, Nat.le_of_ble_eq_true rfl⟩ rfl (rest := []) rfl (Nat.le_of_ble_eq_true rfl) dX7_laysContent_2 (fun H locs hP hS => ?_)
  refine b_eq (tgt := 14) C dX7_laysContent_5 (by decide) h (fun h => ?_) (fun h => ?_)
  · refine lv_aload_n C.1 C.2.1 dX7_laysContent_14 rfl (lv_at hl 0 rfl) ?_
    refine lv_iload_n C.1 C.2.1 dX7_laysContent_15 rfl (lv_at hl 1 rfl) ?_
    refine lv_iconst (v := 3) C.1 C.2.1 dX7_laysContent_16 (by decide) ?_
    obtain ⟨r13, hc, h⟩ := bS h
    refine r_V1 C hK hX hb hP hS hl.1 (kX7_of (hT) hc) hT cl_7 wd_1197 mo_X7_of wd_1199 wd_24 ⟨Nat.le_of_ble_eq_true rfl, Nat.le_of_ble_eq_true rfl⟩ ⟨Nat.le_of_ble_eq_true rfl, Nat.le_of_ble_eq_true rfl⟩ rfl (rest := []) rfl (Nat.le_of_ble_eq_true rfl) dX7_laysContent_17 (fun H locs hP hS => ?_)
    refine lv_iconst (v := 4) C.1 C.2.1 dX7_laysContent_20 (by decide) ?_
    refine b_ine (tgt := 28) C dX7_laysContent_21 (by decide) h (fun h => ?_) (fun h => ?_)
    · refine lv_iconst (v := (-1)) C.1 C.2.1 dX7_laysContent_24 (by decide) ?_
      refine lv_goto (tgt := 34) C.1 C.2.1 dX7_laysContent_25 (by decide) ?_
      exact J34 (M) ((-1)) _ _ _ hP hS (lv_sub hl [0, 1] rfl) h
    · refine lv_aload_n C.1 C.2.1 dX7_laysContent_28 rfl (lv_at hl 0 rfl) ?_
      refine lv_iload_n C.1 C.2.1 dX7_laysContent_29 rfl (lv_at hl 1 rfl) ?_
      refine lv_iconst (v := 0) C.1 C.2.1 dX7_laysContent_30 (by decide) ?_
      obtain ⟨r14, hc, h⟩ := bS h
      refine r_V1 C hK hX hb hP hS hl.1 (kX7_childAt (hT) hc) hT cl_7 wd_1272 mo_X7_childAt wd_1274 wd_37 ⟨Nat.le_of_ble_eq_true rfl, Nat.le_of_ble_eq_true rfl⟩ ⟨Nat.le_of_ble_eq_true rfl, Nat.le_of_ble_eq_true rfl⟩ rfl (rest := []) rfl (Nat.le_of_ble_eq_true rfl) dX7_laysContent_31 (fun H locs hP hS => ?_)
      exact J34 (M) (r14) _ _ _ hP hS (lv_sub hl [0, 1] rfl) h
  · refine lv_aload_n C.1 C.2.1 dX7_laysContent_8 rfl (lv_at hl 0 rfl) ?_
    refine lv_iload_n C.1 C.2.1 dX7_laysContent_9 rfl (lv_at hl 1 rfl) ?_
    obtain ⟨r15, hc, h⟩ := bS h
    refine r_V0 C hK hX hb hP hS hl.1 (kX7_laysText (hT) hc) hT cl_7 wd_1295 mo_X7_laysText wd_1297 wd_41 ⟨Nat.le_of_ble_eq_true rfl, Nat.le_of_ble_eq_true rfl⟩ ⟨Nat.le_of_ble_eq_true rfl, Nat.le_of_ble_eq_true rfl⟩ rfl (rest := []) rfl (Nat.le_of_ble_eq_true rfl) dX7_laysContent_10 (fun H locs hP hS => ?_)
    have e := Option.some.inj h
    exact q_v C hlk hP hS hr rfl e.symm dX7_laysContent_13
theorem dX7_laysPart_0 : decode cX7_laysPart 0 = .ok (.aload_n 0, 1) := by decide +kernel
theorem dX7_laysPart_1 : decode cX7_laysPart 1 = .ok (.iload_n 1, 1) := by decide +kernel
theorem dX7_laysPart_2 : decode cX7_laysPart 2 = .ok (.bipush 13, 2) := by decide +kernel
theorem dX7_laysPart_4 : decode cX7_laysPart 4 = .ok (.invokevirtual 40, 3) := by decide +kernel
theorem dX7_laysPart_7 : decode cX7_laysPart 7 = .ok (.ifCond .le 11, 3) := by decide +kernel
theorem dX7_laysPart_10 : decode cX7_laysPart 10 = .ok (.aload_n 0, 1) := by decide +kernel
theorem dX7_laysPart_11 : decode cX7_laysPart 11 = .ok (.iload_n 1, 1) := by decide +kernel
theorem dX7_laysPart_12 : decode cX7_laysPart 12 = .ok (.invokevirtual 72, 3) := by decide +kernel
theorem dX7_laysPart_15 : decode cX7_laysPart 15 = .ok (.goto 8, 3) := by decide +kernel
theorem dX7_laysPart_18 : decode cX7_laysPart 18 = .ok (.aload_n 0, 1) := by decide +kernel
theorem dX7_laysPart_19 : decode cX7_laysPart 19 = .ok (.iload_n 1, 1) := by decide +kernel
theorem dX7_laysPart_20 : decode cX7_laysPart 20 = .ok (.invokevirtual 78, 3) := by decide +kernel
theorem dX7_laysPart_23 : decode cX7_laysPart 23 = .ok (.return_, 1) := by decide +kernel
abbrev rmX7_laysPart : Room := { frames := 6, cells := 0, slots := 0, locals := 155 }
noncomputable def fX7_laysPart (n : Nat) (Sh : Sp) (M : Mm) (a0 : Nat) (a1 : Int32) : Option Mm :=
  (fX7_of n Sh M a0 a1 13).bind fun r1 =>
  if r1 ≤ 0 then
    (fX7_laysContent n Sh M a0 a1).bind fun r2 =>
    some r2
  else
    (fX7_laysLabel n Sh M a0 a1).bind fun r3 =>
    some r3
set_option maxRecDepth 100000 in
set_option maxHeartbeats 4000000 in
theorem kX7_laysPart {l : Launch} {G : Gt} {n : Nat} {Sh : Sp} {M : Mm} {a0 : Nat} {a1 : Int32} (hT : Sh a0 = some (.inl 7)) {r : Mm} (h : fX7_laysPart n Sh M a0 a1 = some r) : Ct l yX7_laysPart cX7_laysPart 2 none rmX7_laysPart G Sh M [.ref a0, .int a1] none r := by
  refine Ct.of (by decide) (Nat.le_of_ble_eq_true rfl) ?_
  intro p e s m args below meth c ls C hK hX hP hS hb hlk hr hl
  replace hl : lv_has ls 2 [(0, .ref a0), (1, .int a1)] := hl
  unfold fX7_laysPart at h
  refine lv_aload_n C.1 C.2.1 dX7_laysPart_0 rfl (lv_at hl 0 rfl) ?_
  refine lv_iload_n C.1 C.2.1 dX7_laysPart_1 rfl (lv_at hl 1 rfl) ?_
  refine lv_bipush (v := 13) C.1 C.2.1 dX7_laysPart_2 (by decide) ?_
  obtain ⟨r1, hc, h⟩ := bS h
  refine r_V1 C hK hX hb hP hS hl.1 (kX7_of (hT) hc) hT cl_7 wd_1197 mo_X7_of wd_1199 wd_24 ⟨Nat.le_of_ble_eq_true rfl, Nat.le_of_ble_eq_true rfl⟩ ⟨Nat.le_of_ble_eq_true rfl, Nat.le_of_ble_eq_true rfl⟩ rfl (rest := []) rfl (Nat.le_of_ble_eq_true rfl) dX7_laysPart_4 (fun H locs hP hS => ?_)
  refine b_le (tgt := 18) C dX7_laysPart_7 (by decide) h (fun h => ?_) (fun h => ?_)
  · refine lv_aload_n C.1 C.2.1 dX7_laysPart_18 rfl (lv_at hl 0 rfl) ?_
    refine lv_iload_n C.1 C.2.1 dX7_laysPart_19 rfl (lv_at hl 1 rfl) ?_
    obtain ⟨r2, hc, h⟩ := bS h
    refine r_V0 C hK hX hb hP hS hl.1 (kX7_laysContent (hT) hc) hT cl_7 wd_1311 mo_X7_laysContent wd_1313 wd_45 ⟨Nat.le_of_ble_eq_true rfl, Nat.le_of_ble_eq_true rfl⟩ ⟨Nat.le_of_ble_eq_true rfl, Nat.le_of_ble_eq_true rfl⟩ rfl (rest := []) rfl (Nat.le_of_ble_eq_true rfl) dX7_laysPart_20 (fun H locs hP hS => ?_)
    have e := Option.some.inj h
    exact q_v C hlk hP hS hr rfl e.symm dX7_laysPart_23
  · refine lv_aload_n C.1 C.2.1 dX7_laysPart_10 rfl (lv_at hl 0 rfl) ?_
    refine lv_iload_n C.1 C.2.1 dX7_laysPart_11 rfl (lv_at hl 1 rfl) ?_
    obtain ⟨r3, hc, h⟩ := bS h
    refine r_V0 C hK hX hb hP hS hl.1 (kX7_laysLabel (hT) hc) hT cl_7 wd_1303 mo_X7_laysLabel wd_1305 wd_43 ⟨Nat.le_of_ble_eq_true rfl, Nat.le_of_ble_eq_true rfl⟩ ⟨Nat.le_of_ble_eq_true rfl, Nat.le_of_ble_eq_true rfl⟩ rfl (rest := []) rfl (Nat.le_of_ble_eq_true rfl) dX7_laysPart_12 (fun H locs hP hS => ?_)
    refine lv_goto (tgt := 23) C.1 C.2.1 dX7_laysPart_15 (by decide) ?_
    have e := Option.some.inj h
    exact q_v C hlk hP hS hr rfl e.symm dX7_laysPart_23
theorem dX7_laysName_0 : decode cX7_laysName 0 = .ok (.aload_n 0, 1) := by decide +kernel
theorem dX7_laysName_1 : decode cX7_laysName 1 = .ok (.iload_n 1, 1) := by decide +kernel
theorem dX7_laysName_2 : decode cX7_laysName 2 = .ok (.iconst 3, 1) := by decide +kernel
theorem dX7_laysName_3 : decode cX7_laysName 3 = .ok (.invokevirtual 40, 3) := by decide +kernel
theorem dX7_laysName_6 : decode cX7_laysName 6 = .ok (.istore_n 2, 1) := by decide +kernel
theorem dX7_laysName_7 : decode cX7_laysName 7 = .ok (.aload_n 0, 1) := by decide +kernel
theorem dX7_laysName_8 : decode cX7_laysName 8 = .ok (.iload_n 1, 1) := by decide +kernel
theorem dX7_laysName_9 : decode cX7_laysName 9 = .ok (.iconst 4, 1) := by decide +kernel
theorem dX7_laysName_10 : decode cX7_laysName 10 = .ok (.invokevirtual 40, 3) := by decide +kernel
theorem dX7_laysName_13 : decode cX7_laysName 13 = .ok (.iconst (-1), 1) := by decide +kernel
theorem dX7_laysName_14 : decode cX7_laysName 14 = .ok (.if_icmp .eq 16, 3) := by decide +kernel
theorem dX7_laysName_17 : decode cX7_laysName 17 = .ok (.aload_n 0, 1) := by decide +kernel
theorem dX7_laysName_18 : decode cX7_laysName 18 = .ok (.aload_n 0, 1) := by decide +kernel
theorem dX7_laysName_19 : decode cX7_laysName 19 = .ok (.iload_n 1, 1) := by decide +kernel
theorem dX7_laysName_20 : decode cX7_laysName 20 = .ok (.iconst 4, 1) := by decide +kernel
theorem dX7_laysName_21 : decode cX7_laysName 21 = .ok (.invokevirtual 40, 3) := by decide +kernel
theorem dX7_laysName_24 : decode cX7_laysName 24 = .ok (.invokevirtual 78, 3) := by decide +kernel
theorem dX7_laysName_27 : decode cX7_laysName 27 = .ok (.goto 53, 3) := by decide +kernel
theorem dX7_laysName_30 : decode cX7_laysName 30 = .ok (.aload_n 0, 1) := by decide +kernel
theorem dX7_laysName_31 : decode cX7_laysName 31 = .ok (.iload_n 1, 1) := by decide +kernel
theorem dX7_laysName_32 : decode cX7_laysName 32 = .ok (.bipush 13, 2) := by decide +kernel
theorem dX7_laysName_34 : decode cX7_laysName 34 = .ok (.invokevirtual 40, 3) := by decide +kernel
theorem dX7_laysName_37 : decode cX7_laysName 37 = .ok (.ifCond .le 11, 3) := by decide +kernel
theorem dX7_laysName_40 : decode cX7_laysName 40 = .ok (.aload_n 0, 1) := by decide +kernel
theorem dX7_laysName_41 : decode cX7_laysName 41 = .ok (.iload_n 1, 1) := by decide +kernel
theorem dX7_laysName_42 : decode cX7_laysName 42 = .ok (.invokevirtual 72, 3) := by decide +kernel
theorem dX7_laysName_45 : decode cX7_laysName 45 = .ok (.goto 35, 3) := by decide +kernel
theorem dX7_laysName_48 : decode cX7_laysName 48 = .ok (.iload_n 2, 1) := by decide +kernel
theorem dX7_laysName_49 : decode cX7_laysName 49 = .ok (.iconst 1, 1) := by decide +kernel
theorem dX7_laysName_50 : decode cX7_laysName 50 = .ok (.if_icmp .eq 25, 3) := by decide +kernel
theorem dX7_laysName_53 : decode cX7_laysName 53 = .ok (.iload_n 2, 1) := by decide +kernel
theorem dX7_laysName_54 : decode cX7_laysName 54 = .ok (.iconst 2, 1) := by decide +kernel
theorem dX7_laysName_55 : decode cX7_laysName 55 = .ok (.if_icmp .eq 20, 3) := by decide +kernel
theorem dX7_laysName_58 : decode cX7_laysName 58 = .ok (.iload_n 2, 1) := by decide +kernel
theorem dX7_laysName_59 : decode cX7_laysName 59 = .ok (.iconst 3, 1) := by decide +kernel
theorem dX7_laysName_60 : decode cX7_laysName 60 = .ok (.if_icmp .eq 15, 3) := by decide +kernel
theorem dX7_laysName_63 : decode cX7_laysName 63 = .ok (.iload_n 2, 1) := by decide +kernel
theorem dX7_laysName_64 : decode cX7_laysName 64 = .ok (.bipush 9, 2) := by decide +kernel
theorem dX7_laysName_66 : decode cX7_laysName 66 = .ok (.if_icmp .eq 9, 3) := by decide +kernel
theorem dX7_laysName_69 : decode cX7_laysName 69 = .ok (.iload_n 2, 1) := by decide +kernel
theorem dX7_laysName_70 : decode cX7_laysName 70 = .ok (.bipush 10, 2) := by decide +kernel
theorem dX7_laysName_72 : decode cX7_laysName 72 = .ok (.if_icmp .ne 8, 3) := by decide +kernel
theorem dX7_laysName_75 : decode cX7_laysName 75 = .ok (.aload_n 0, 1) := by decide +kernel
theorem dX7_laysName_76 : decode cX7_laysName 76 = .ok (.iload_n 1, 1) := by decide +kernel
theorem dX7_laysName_77 : decode cX7_laysName 77 = .ok (.invokevirtual 78, 3) := by decide +kernel
theorem dX7_laysName_80 : decode cX7_laysName 80 = .ok (.return_, 1) := by decide +kernel
abbrev rmX7_laysName : Room := { frames := 6, cells := 0, slots := 0, locals := 155 }
noncomputable def fX7_laysName_75 (n : Nat) (Sh : Sp) (a0 : Nat) (a1 : Int32) (M : Mm) : Option Mm :=
  (fX7_laysContent n Sh M a0 a1).bind fun r1 =>
  some r1
noncomputable def fX7_laysName (n : Nat) (Sh : Sp) (M : Mm) (a0 : Nat) (a1 : Int32) : Option Mm :=
  (fX7_of n Sh M a0 a1 3).bind fun r2 =>
  (fX7_of n Sh M a0 a1 4).bind fun r3 =>
  if r3 = (-1) then
    (fX7_of n Sh M a0 a1 13).bind fun r4 =>
    if r4 ≤ 0 then
      if r2 = 1 then
        fX7_laysName_75 n Sh a0 a1 M
      else
        if r2 = 2 then
          fX7_laysName_75 n Sh a0 a1 M
        else
          if r2 = 3 then
            fX7_laysName_75 n Sh a0 a1 M
          else
            if r2 = 9 then
              fX7_laysName_75 n Sh a0 a1 M
            else
              if r2 = 10 then
                fX7_laysName_75 n Sh a0 a1 M
              else
                some M
    else
      (fX7_laysLabel n Sh M a0 a1).bind fun r5 =>
      some r5
  else
    (fX7_of n Sh M a0 a1 4).bind fun r6 =>
    (fX7_laysContent n Sh M a0 r6).bind fun r7 =>
    some r7
set_option maxRecDepth 100000 in
set_option maxHeartbeats 4000000 in
theorem kX7_laysName {l : Launch} {G : Gt} {n : Nat} {Sh : Sp} {M : Mm} {a0 : Nat} {a1 : Int32} (hT : Sh a0 = some (.inl 7)) {r : Mm} (h : fX7_laysName n Sh M a0 a1 = some r) : Ct l yX7_laysName cX7_laysName 3 none rmX7_laysName G Sh M [.ref a0, .int a1] none r := by
  refine Ct.of (by decide) (Nat.le_of_ble_eq_true rfl) ?_
  intro p e s m args below meth c ls C hK hX hP hS hb hlk hr hl
  replace hl : lv_has ls 3 [(0, .ref a0), (1, .int a1)] := hl
  have J75 : ∀ (M : Mm) (H : Heap) (locs : List Loc) (ls : Array Slot), HM G Sh M H → SS G s s.heap.size H locs → lv_has ls 3 [(0, .ref a0), (1, .int a1)] → fX7_laysName_75 n Sh a0 a1 M = some r → W p l e rmX7_laysName s m args below meth c H locs 0 0 (MQ below (QG G Sh r none) args s rmX7_laysName.cells rmX7_laysName.slots (AA G)) (F0 m 75 ls []) := by
    intro M H locs ls hP hS hl h
    unfold fX7_laysName_75 at h
    refine lv_aload_n C.1 C.2.1 dX7_laysName_75 rfl (lv_at hl 0 rfl) ?_
    refine lv_iload_n C.1 C.2.1 dX7_laysName_76 rfl (lv_at hl 1 rfl) ?_
    obtain ⟨r1, hc, h⟩ := bS h
    refine r_V0 C hK hX hb hP hS hl.1 (kX7_laysContent (hT) hc) hT cl_7 wd_1311 mo_X7_laysContent wd_1313 wd_45 ⟨Nat.le_of_ble_eq_true rfl, Nat.le_of_ble_eq_true rfl⟩ ⟨Nat.le_of_ble_eq_true rfl, Nat.le_of_ble_eq_true rfl⟩ rfl (rest := []) rfl (Nat.le_of_ble_eq_true rfl) dX7_laysName_77 (fun H locs hP hS => ?_)
    have e := Option.some.inj h
    exact q_v C hlk hP hS hr rfl e.symm dX7_laysName_80
  unfold fX7_laysName at h
  refine lv_aload_n C.1 C.2.1 dX7_laysName_0 rfl (lv_at hl 0 rfl) ?_
  refine lv_iload_n C.1 C.2.1 dX7_laysName_1 rfl (lv_at hl 1 rfl) ?_
  refine lv_iconst (v := 3) C.1 C.2.1 dX7_laysName_2 (by decide) ?_
  obtain ⟨r2, hc, h⟩ := bS h
  refine r_V1 C hK hX hb hP hS hl.1 (kX7_of (hT) hc) hT cl_7 wd_1197 mo_X7_of wd_1199 wd_24 ⟨Nat.le_of_ble_eq_true rfl, Nat.le_of_ble_eq_true rfl⟩ ⟨Nat.le_of_ble_eq_true rfl, Nat.le_of_ble_eq_true rfl⟩ rfl (rest := []) rfl (Nat.le_of_ble_eq_true rfl) dX7_laysName_3 (fun H locs hP hS => ?_)
  refine lv_istore_n (lv' := [(2, .int r2), (0, .ref a0), (1, .int a1)]) C.1 C.2.1 dX7_laysName_6 rfl hl (by decide) rfl (fun ls hl => ?_)
  refine lv_aload_n C.1 C.2.1 dX7_laysName_7 rfl (lv_at hl 1 rfl) ?_
  refine lv_iload_n C.1 C.2.1 dX7_laysName_8 rfl (lv_at hl 2 rfl) ?_
  refine lv_iconst (v := 4) C.1 C.2.1 dX7_laysName_9 (by decide) ?_
  obtain ⟨r3, hc, h⟩ := bS h
  refine r_V1 C hK hX hb hP hS hl.1 (kX7_of (hT) hc) hT cl_7 wd_1197 mo_X7_of wd_1199 wd_24 ⟨Nat.le_of_ble_eq_true rfl, Nat.le_of_ble_eq_true rfl⟩ ⟨Nat.le_of_ble_eq_true rfl, Nat.le_of_ble_eq_true rfl⟩ rfl (rest := []) rfl (Nat.le_of_ble_eq_true rfl) dX7_laysName_10 (fun H locs hP hS => ?_)
  refine lv_iconst (v := (-1)) C.1 C.2.1 dX7_laysName_13 (by decide) ?_
  refine b_ieq (tgt := 30) C dX7_laysName_14 (by decide) h (fun h => ?_) (fun h => ?_)
  · refine lv_aload_n C.1 C.2.1 dX7_laysName_30 rfl (lv_at hl 1 rfl) ?_
    refine lv_iload_n C.1 C.2.1 dX7_laysName_31 rfl (lv_at hl 2 rfl) ?_
    refine lv_bipush (v := 13) C.1 C.2.1 dX7_laysName_32 (by decide) ?_
    obtain ⟨r4, hc, h⟩ := bS h
    refine r_V1 C hK hX hb hP hS hl.1 (kX7_of (hT) hc) hT cl_7 wd_1197 mo_X7_of wd_1199 wd_24 ⟨Nat.le_of_ble_eq_true rfl, Nat.le_of_ble_eq_true rfl⟩ ⟨Nat.le_of_ble_eq_true rfl, Nat.le_of_ble_eq_true rfl⟩ rfl (rest := []) rfl (Nat.le_of_ble_eq_true rfl) dX7_laysName_34 (fun H locs hP hS => ?_)
    refine b_le (tgt := 48) C dX7_laysName_37 (by decide) h (fun h => ?_) (fun h => ?_)
    · refine lv_iload_n C.1 C.2.1 dX7_laysName_48 rfl (lv_at hl 0 rfl) ?_
      refine lv_iconst (v := 1) C.1 C.2.1 dX7_laysName_49 (by decide) ?_
      refine b_ieq (tgt := 75) C dX7_laysName_50 (by decide) h (fun h => ?_) (fun h => ?_)
      · exact J75 (M) _ _ _ hP hS (lv_sub hl [1, 2] rfl) h
      · refine lv_iload_n C.1 C.2.1 dX7_laysName_53 rfl (lv_at hl 0 rfl) ?_
        refine lv_iconst (v := 2) C.1 C.2.1 dX7_laysName_54 (by decide) ?_
        refine b_ieq (tgt := 75) C dX7_laysName_55 (by decide) h (fun h => ?_) (fun h => ?_)
        · exact J75 (M) _ _ _ hP hS (lv_sub hl [1, 2] rfl) h
        · refine lv_iload_n C.1 C.2.1 dX7_laysName_58 rfl (lv_at hl 0 rfl) ?_
          refine lv_iconst (v := 3) C.1 C.2.1 dX7_laysName_59 (by decide) ?_
          refine b_ieq (tgt := 75) C dX7_laysName_60 (by decide) h (fun h => ?_) (fun h => ?_)
          · exact J75 (M) _ _ _ hP hS (lv_sub hl [1, 2] rfl) h
          · refine lv_iload_n C.1 C.2.1 dX7_laysName_63 rfl (lv_at hl 0 rfl) ?_
            refine lv_bipush (v := 9) C.1 C.2.1 dX7_laysName_64 (by decide) ?_
            refine b_ieq (tgt := 75) C dX7_laysName_66 (by decide) h (fun h => ?_) (fun h => ?_)
            · exact J75 (M) _ _ _ hP hS (lv_sub hl [1, 2] rfl) h
            · refine lv_iload_n C.1 C.2.1 dX7_laysName_69 rfl (lv_at hl 0 rfl) ?_
              refine lv_bipush (v := 10) C.1 C.2.1 dX7_laysName_70 (by decide) ?_
              refine b_ine (tgt := 80) C dX7_laysName_72 (by decide) h (fun h => ?_) (fun h => ?_)
              · exact J75 (M) _ _ _ hP hS (lv_sub hl [1, 2] rfl) h
              · have e := Option.some.inj h
                exact q_v C hlk hP hS hr rfl e.symm dX7_laysName_80
    · refine lv_aload_n C.1 C.2.1 dX7_laysName_40 rfl (lv_at hl 1 rfl) ?_
      refine lv_iload_n C.1 C.2.1 dX7_laysName_41 rfl (lv_at hl 2 rfl) ?_
      obtain ⟨r5, hc, h⟩ := bS h
      refine r_V0 C hK hX hb hP hS hl.1 (kX7_laysLabel (hT) hc) hT cl_7 wd_1303 mo_X7_laysLabel wd_1305 wd_43 ⟨Nat.le_of_ble_eq_true rfl, Nat.le_of_ble_eq_true rfl⟩ ⟨Nat.le_of_ble_eq_true rfl, Nat.le_of_ble_eq_true rfl⟩ rfl (rest := []) rfl (Nat.le_of_ble_eq_true rfl) dX7_laysName_42 (fun H locs hP hS => ?_)
      refine lv_goto (tgt := 80) C.1 C.2.1 dX7_laysName_45 (by decide) ?_
      have e := Option.some.inj h
      exact q_v C hlk hP hS hr rfl e.symm dX7_laysName_80
  · refine lv_aload_n C.1 C.2.1 dX7_laysName_17 rfl (lv_at hl 1 rfl) ?_
    refine lv_aload_n C.1 C.2.1 dX7_laysName_18 rfl (lv_at hl 1 rfl) ?_
    refine lv_iload_n C.1 C.2.1 dX7_laysName_19 rfl (lv_at hl 2 rfl) ?_
    refine lv_iconst (v := 4) C.1 C.2.1 dX7_laysName_20 (by decide) ?_
    obtain ⟨r6, hc, h⟩ := bS h
    refine r_V1 C hK hX hb hP hS hl.1 (kX7_of (hT) hc) hT cl_7 wd_1197 mo_X7_of wd_1199 wd_24 ⟨Nat.le_of_ble_eq_true rfl, Nat.le_of_ble_eq_true rfl⟩ ⟨Nat.le_of_ble_eq_true rfl, Nat.le_of_ble_eq_true rfl⟩ rfl (rest := [.ref a0]) rfl (Nat.le_of_ble_eq_true rfl) dX7_laysName_21 (fun H locs hP hS => ?_)
    obtain ⟨r7, hc, h⟩ := bS h
    refine r_V0 C hK hX hb hP hS hl.1 (kX7_laysContent (hT) hc) hT cl_7 wd_1311 mo_X7_laysContent wd_1313 wd_45 ⟨Nat.le_of_ble_eq_true rfl, Nat.le_of_ble_eq_true rfl⟩ ⟨Nat.le_of_ble_eq_true rfl, Nat.le_of_ble_eq_true rfl⟩ rfl (rest := []) rfl (Nat.le_of_ble_eq_true rfl) dX7_laysName_24 (fun H locs hP hS => ?_)
    refine lv_goto (tgt := 80) C.1 C.2.1 dX7_laysName_27 (by decide) ?_
    have e := Option.some.inj h
    exact q_v C hlk hP hS hr rfl e.symm dX7_laysName_80
theorem dX7_laysWord_0 : decode cX7_laysWord 0 = .ok (.iload_n 1, 1) := by decide +kernel
theorem dX7_laysWord_1 : decode cX7_laysWord 1 = .ok (.ifCond .eq 31, 3) := by decide +kernel
theorem dX7_laysWord_4 : decode cX7_laysWord 4 = .ok (.aload_n 0, 1) := by decide +kernel
theorem dX7_laysWord_5 : decode cX7_laysWord 5 = .ok (.getfield 58, 3) := by decide +kernel
theorem dX7_laysWord_8 : decode cX7_laysWord 8 = .ok (.ifCond .le 24, 3) := by decide +kernel
theorem dX7_laysWord_11 : decode cX7_laysWord 11 = .ok (.aload_n 0, 1) := by decide +kernel
theorem dX7_laysWord_12 : decode cX7_laysWord 12 = .ok (.getfield 19, 3) := by decide +kernel
theorem dX7_laysWord_15 : decode cX7_laysWord 15 = .ok (.aload_n 0, 1) := by decide +kernel
theorem dX7_laysWord_16 : decode cX7_laysWord 16 = .ok (.getfield 58, 3) := by decide +kernel
theorem dX7_laysWord_19 : decode cX7_laysWord 19 = .ok (.bipush 32, 2) := by decide +kernel
theorem dX7_laysWord_21 : decode cX7_laysWord 21 = .ok (.iastore, 1) := by decide +kernel
theorem dX7_laysWord_22 : decode cX7_laysWord 22 = .ok (.aload_n 0, 1) := by decide +kernel
theorem dX7_laysWord_23 : decode cX7_laysWord 23 = .ok (.dup, 1) := by decide +kernel
theorem dX7_laysWord_24 : decode cX7_laysWord 24 = .ok (.getfield 58, 3) := by decide +kernel
theorem dX7_laysWord_27 : decode cX7_laysWord 27 = .ok (.iconst 1, 1) := by decide +kernel
theorem dX7_laysWord_28 : decode cX7_laysWord 28 = .ok (.iadd, 1) := by decide +kernel
theorem dX7_laysWord_29 : decode cX7_laysWord 29 = .ok (.putfield 58, 3) := by decide +kernel
theorem dX7_laysWord_32 : decode cX7_laysWord 32 = .ok (.bipush 24, 2) := by decide +kernel
theorem dX7_laysWord_34 : decode cX7_laysWord 34 = .ok (.istore_n 3, 1) := by decide +kernel
theorem dX7_laysWord_35 : decode cX7_laysWord 35 = .ok (.iload_n 3, 1) := by decide +kernel
theorem dX7_laysWord_36 : decode cX7_laysWord 36 = .ok (.ifCond .lt 48, 3) := by decide +kernel
theorem dX7_laysWord_39 : decode cX7_laysWord 39 = .ok (.iload_n 1, 1) := by decide +kernel
theorem dX7_laysWord_40 : decode cX7_laysWord 40 = .ok (.iload_n 3, 1) := by decide +kernel
theorem dX7_laysWord_41 : decode cX7_laysWord 41 = .ok (.ishr, 1) := by decide +kernel
theorem dX7_laysWord_42 : decode cX7_laysWord 42 = .ok (.sipush 255, 3) := by decide +kernel
theorem dX7_laysWord_45 : decode cX7_laysWord 45 = .ok (.iand, 1) := by decide +kernel
theorem dX7_laysWord_46 : decode cX7_laysWord 46 = .ok (.istore 4, 2) := by decide +kernel
theorem dX7_laysWord_48 : decode cX7_laysWord 48 = .ok (.aload_n 0, 1) := by decide +kernel
theorem dX7_laysWord_49 : decode cX7_laysWord 49 = .ok (.getfield 19, 3) := by decide +kernel
theorem dX7_laysWord_52 : decode cX7_laysWord 52 = .ok (.aload_n 0, 1) := by decide +kernel
theorem dX7_laysWord_53 : decode cX7_laysWord 53 = .ok (.getfield 58, 3) := by decide +kernel
theorem dX7_laysWord_56 : decode cX7_laysWord 56 = .ok (.iload 4, 2) := by decide +kernel
theorem dX7_laysWord_58 : decode cX7_laysWord 58 = .ok (.iastore, 1) := by decide +kernel
theorem dX7_laysWord_59 : decode cX7_laysWord 59 = .ok (.aload_n 0, 1) := by decide +kernel
theorem dX7_laysWord_60 : decode cX7_laysWord 60 = .ok (.dup, 1) := by decide +kernel
theorem dX7_laysWord_61 : decode cX7_laysWord 61 = .ok (.getfield 58, 3) := by decide +kernel
theorem dX7_laysWord_64 : decode cX7_laysWord 64 = .ok (.iload 4, 2) := by decide +kernel
theorem dX7_laysWord_66 : decode cX7_laysWord 66 = .ok (.ifCond .le 7, 3) := by decide +kernel
theorem dX7_laysWord_69 : decode cX7_laysWord 69 = .ok (.iconst 1, 1) := by decide +kernel
theorem dX7_laysWord_70 : decode cX7_laysWord 70 = .ok (.goto 4, 3) := by decide +kernel
theorem dX7_laysWord_73 : decode cX7_laysWord 73 = .ok (.iconst 0, 1) := by decide +kernel
theorem dX7_laysWord_74 : decode cX7_laysWord 74 = .ok (.iadd, 1) := by decide +kernel
theorem dX7_laysWord_75 : decode cX7_laysWord 75 = .ok (.putfield 58, 3) := by decide +kernel
theorem dX7_laysWord_78 : decode cX7_laysWord 78 = .ok (.iinc 3 (-8), 3) := by decide +kernel
theorem dX7_laysWord_81 : decode cX7_laysWord 81 = .ok (.goto (-46), 3) := by decide +kernel
theorem dX7_laysWord_84 : decode cX7_laysWord 84 = .ok (.bipush 24, 2) := by decide +kernel
theorem dX7_laysWord_86 : decode cX7_laysWord 86 = .ok (.istore_n 3, 1) := by decide +kernel
theorem dX7_laysWord_87 : decode cX7_laysWord 87 = .ok (.iload_n 3, 1) := by decide +kernel
theorem dX7_laysWord_88 : decode cX7_laysWord 88 = .ok (.ifCond .lt 48, 3) := by decide +kernel
theorem dX7_laysWord_91 : decode cX7_laysWord 91 = .ok (.iload_n 2, 1) := by decide +kernel
theorem dX7_laysWord_92 : decode cX7_laysWord 92 = .ok (.iload_n 3, 1) := by decide +kernel
theorem dX7_laysWord_93 : decode cX7_laysWord 93 = .ok (.ishr, 1) := by decide +kernel
theorem dX7_laysWord_94 : decode cX7_laysWord 94 = .ok (.sipush 255, 3) := by decide +kernel
theorem dX7_laysWord_97 : decode cX7_laysWord 97 = .ok (.iand, 1) := by decide +kernel
theorem dX7_laysWord_98 : decode cX7_laysWord 98 = .ok (.istore 4, 2) := by decide +kernel
theorem dX7_laysWord_100 : decode cX7_laysWord 100 = .ok (.aload_n 0, 1) := by decide +kernel
theorem dX7_laysWord_101 : decode cX7_laysWord 101 = .ok (.getfield 19, 3) := by decide +kernel
theorem dX7_laysWord_104 : decode cX7_laysWord 104 = .ok (.aload_n 0, 1) := by decide +kernel
theorem dX7_laysWord_105 : decode cX7_laysWord 105 = .ok (.getfield 58, 3) := by decide +kernel
theorem dX7_laysWord_108 : decode cX7_laysWord 108 = .ok (.iload 4, 2) := by decide +kernel
theorem dX7_laysWord_110 : decode cX7_laysWord 110 = .ok (.iastore, 1) := by decide +kernel
theorem dX7_laysWord_111 : decode cX7_laysWord 111 = .ok (.aload_n 0, 1) := by decide +kernel
theorem dX7_laysWord_112 : decode cX7_laysWord 112 = .ok (.dup, 1) := by decide +kernel
theorem dX7_laysWord_113 : decode cX7_laysWord 113 = .ok (.getfield 58, 3) := by decide +kernel
theorem dX7_laysWord_116 : decode cX7_laysWord 116 = .ok (.iload 4, 2) := by decide +kernel
theorem dX7_laysWord_118 : decode cX7_laysWord 118 = .ok (.ifCond .le 7, 3) := by decide +kernel
theorem dX7_laysWord_121 : decode cX7_laysWord 121 = .ok (.iconst 1, 1) := by decide +kernel
theorem dX7_laysWord_122 : decode cX7_laysWord 122 = .ok (.goto 4, 3) := by decide +kernel
theorem dX7_laysWord_125 : decode cX7_laysWord 125 = .ok (.iconst 0, 1) := by decide +kernel
theorem dX7_laysWord_126 : decode cX7_laysWord 126 = .ok (.iadd, 1) := by decide +kernel
theorem dX7_laysWord_127 : decode cX7_laysWord 127 = .ok (.putfield 58, 3) := by decide +kernel
theorem dX7_laysWord_130 : decode cX7_laysWord 130 = .ok (.iinc 3 (-8), 3) := by decide +kernel
theorem dX7_laysWord_133 : decode cX7_laysWord 133 = .ok (.goto (-46), 3) := by decide +kernel
theorem dX7_laysWord_136 : decode cX7_laysWord 136 = .ok (.return_, 1) := by decide +kernel
abbrev rmX7_laysWord : Room := { frames := 1, cells := 0, slots := 0, locals := 40 }
noncomputable def fX7_laysWord_126 (n : Nat) (Sh : Sp) (a0 : Nat) (a1 : Int32) (a2 : Int32) (M : Mm) (v3 : Int32) (t0 : Nat) (t1 : Int32) (t2 : Int32) : Option ((Int32 × Mm) ⊕ Mm) :=
  pI Sh M t0 7 7 (t1 + t2) fun M1 =>
  some (Sum.inl ((v3 + (-8)), M1))
noncomputable def fX7_laysWord_87b (n : Nat) (Sh : Sp) (a0 : Nat) (a1 : Int32) (a2 : Int32) (M : Mm) (v3 : Int32) : Option ((Int32 × Mm) ⊕ Mm) :=
  if v3 < 0 then
    some (Sum.inr M)
  else
    tF M a0 6 fun b2 =>
    tI M a0 7 fun x3 =>
    sI Sh M b2 x3 ((a2 >>> (v3 &&& 31)) &&& 255) fun M4 =>
    tI M4 a0 7 fun x5 =>
    if ((a2 >>> (v3 &&& 31)) &&& 255) ≤ 0 then
      fX7_laysWord_126 n Sh a0 a1 a2 M4 v3 a0 x5 0
    else
      fX7_laysWord_126 n Sh a0 a1 a2 M4 v3 a0 x5 1
noncomputable def fX7_laysWord_87 (n : Nat) (Sh : Sp) (a0 : Nat) (a1 : Int32) (a2 : Int32) (M : Mm) (v3 : Int32) : Option Mm :=
  iter n (fun s => fX7_laysWord_87b n Sh a0 a1 a2 s.2 s.1) (v3, M)
noncomputable def fX7_laysWord_84 (n : Nat) (Sh : Sp) (a0 : Nat) (a1 : Int32) (a2 : Int32) (M : Mm) : Option Mm :=
  fX7_laysWord_87 n Sh a0 a1 a2 M 24
noncomputable def fX7_laysWord_74 (n : Nat) (Sh : Sp) (a0 : Nat) (a1 : Int32) (a2 : Int32) (M : Mm) (v3 : Int32) (t0 : Nat) (t1 : Int32) (t2 : Int32) : Option ((Int32 × Mm) ⊕ Mm) :=
  pI Sh M t0 7 7 (t1 + t2) fun M6 =>
  some (Sum.inl ((v3 + (-8)), M6))
noncomputable def fX7_laysWord_35b (n : Nat) (Sh : Sp) (a0 : Nat) (a1 : Int32) (a2 : Int32) (M : Mm) (v3 : Int32) : Option ((Int32 × Mm) ⊕ Mm) :=
  if v3 < 0 then
    (fX7_laysWord_84 n Sh a0 a1 a2 M).map Sum.inr
  else
    tF M a0 6 fun b7 =>
    tI M a0 7 fun x8 =>
    sI Sh M b7 x8 ((a1 >>> (v3 &&& 31)) &&& 255) fun M9 =>
    tI M9 a0 7 fun x10 =>
    if ((a1 >>> (v3 &&& 31)) &&& 255) ≤ 0 then
      fX7_laysWord_74 n Sh a0 a1 a2 M9 v3 a0 x10 0
    else
      fX7_laysWord_74 n Sh a0 a1 a2 M9 v3 a0 x10 1
noncomputable def fX7_laysWord_35 (n : Nat) (Sh : Sp) (a0 : Nat) (a1 : Int32) (a2 : Int32) (M : Mm) (v3 : Int32) : Option Mm :=
  iter n (fun s => fX7_laysWord_35b n Sh a0 a1 a2 s.2 s.1) (v3, M)
noncomputable def fX7_laysWord_32 (n : Nat) (Sh : Sp) (a0 : Nat) (a1 : Int32) (a2 : Int32) (M : Mm) : Option Mm :=
  fX7_laysWord_35 n Sh a0 a1 a2 M 24
noncomputable def fX7_laysWord (n : Nat) (Sh : Sp) (M : Mm) (a0 : Nat) (a1 : Int32) (a2 : Int32) : Option Mm :=
  if a1 = 0 then
    fX7_laysWord_32 n Sh a0 a1 a2 M
  else
    tI M a0 7 fun x11 =>
    if x11 ≤ 0 then
      fX7_laysWord_32 n Sh a0 a1 a2 M
    else
      tF M a0 6 fun b12 =>
      tI M a0 7 fun x13 =>
      sI Sh M b12 x13 32 fun M14 =>
      tI M14 a0 7 fun x15 =>
      qI M14 a0 7 (x15 + 1) fun M16 =>
      fX7_laysWord_32 n Sh a0 a1 a2 M16
set_option maxRecDepth 100000 in
set_option maxHeartbeats 4000000 in
theorem kX7_laysWord {l : Launch} {G : Gt} {n : Nat} {Sh : Sp} {M : Mm} {a0 : Nat} {a1 : Int32} {a2 : Int32} (hT : Sh a0 = some (.inl 7)) {r : Mm} (h : fX7_laysWord n Sh M a0 a1 a2 = some r) : Ct l yX7_laysWord cX7_laysWord 5 none rmX7_laysWord G Sh M [.ref a0, .int a1, .int a2] none r := by
  refine Ct.of (by decide) (Nat.le_of_ble_eq_true rfl) ?_
  intro p e s m args below meth c ls C hK hX hP hS hb hlk hr hl
  replace hl : lv_has ls 5 [(0, .ref a0), (1, .int a1), (2, .int a2)] := hl
  have J87 : ∀ (k : Nat) (v3 : Int32) (M : Mm) (H : Heap) (locs : List Loc) (ls : Array Slot), HM G Sh M H → SS G s s.heap.size H locs → lv_has ls 5 [(0, .ref a0), (1, .int a1), (2, .int a2), (3, .int v3)] → iter k (fun s => fX7_laysWord_87b n Sh a0 a1 a2 s.2 s.1) (v3, M) = some r → W p l e rmX7_laysWord s m args below meth c H locs 0 0 (MQ below (QG G Sh r none) args s rmX7_laysWord.cells rmX7_laysWord.slots (AA G)) (F0 m 87 ls []) := by
    intro k
    induction k with
    | zero => intro v3 M H locs ls hP hS hl h; exact (iter_0 h).elim
    | succ k ih1 =>
      intro v3 M H locs ls hP hS hl h
      obtain ⟨z1, h, hz1⟩ := iter_some h
      replace h : fX7_laysWord_87b n Sh a0 a1 a2 M v3 = some z1 := h
      have J126 : ∀ (M : Mm) (v3 : Int32) (t0 : Nat) (t1 : Int32) (t2 : Int32) (H : Heap) (locs : List Loc) (ls : Array Slot), HM G Sh M H → SS G s s.heap.size H locs → lv_has ls 5 [(0, .ref a0), (1, .int a1), (2, .int a2), (3, .int v3)] → fX7_laysWord_126 n Sh a0 a1 a2 M v3 t0 t1 t2 = some z1 → W p l e rmX7_laysWord s m args below meth c H locs 0 0 (MQ below (QG G Sh r none) args s rmX7_laysWord.cells rmX7_laysWord.slots (AA G)) (F0 m 126 ls [.int t2, .int t1, .ref t0]) := by
        intro M v3 t0 t1 t2 H locs ls hP hS hl h
        unfold fX7_laysWord_126 at h
        refine lv_iadd C.1 C.2.1 dX7_laysWord_126 ?_
        refine r_pI C hK hP hS cl_7 (k := 7) (by decide) wd_1151 rfl rfl (tyX7_ok 7 (by decide)) dX7_laysWord_127 h (fun M1 H locs h hP hS => ?_)
        refine lv_iinc (v := (v3 + (-8))) (lv' := [(3, .int (v3 + (-8))), (0, .ref a0), (1, .int a1), (2, .int a2)]) C.1 C.2.1 dX7_laysWord_130 hl (k := 3) rfl rfl (by decide) rfl (fun ls hl => ?_)
        refine lv_goto (tgt := 87) C.1 C.2.1 dX7_laysWord_133 (by decide) ?_
        have e := Option.some.inj h
        rw [← e] at hz1
        exact ih1 ((v3 + (-8))) M1 _ _ _ hP hS (lv_sub hl [1, 2, 3, 0] rfl) (itK_inl hz1)
      unfold fX7_laysWord_87b at h
      refine lv_iload_n C.1 C.2.1 dX7_laysWord_87 rfl (lv_at hl 3 rfl) ?_
      refine b_lt (tgt := 136) C dX7_laysWord_88 (by decide) h (fun h => ?_) (fun h => ?_)
      · have e := Option.some.inj h
        rw [← e] at hz1
        replace e := itK_inr hz1
        exact q_v C hlk hP hS hr rfl e.symm dX7_laysWord_136
      · refine lv_iload_n C.1 C.2.1 dX7_laysWord_91 rfl (lv_at hl 2 rfl) ?_
        refine lv_iload_n C.1 C.2.1 dX7_laysWord_92 rfl (lv_at hl 3 rfl) ?_
        refine lv_ishr C.1 C.2.1 dX7_laysWord_93 ?_
        refine lv_sipush (v := 255) C.1 C.2.1 dX7_laysWord_94 (by decide) ?_
        refine lv_iand C.1 C.2.1 dX7_laysWord_97 ?_
        refine lv_istore (lv' := [(4, .int ((a2 >>> (v3 &&& 31)) &&& 255)), (0, .ref a0), (1, .int a1), (2, .int a2), (3, .int v3)]) C.1 C.2.1 dX7_laysWord_98 hl (by decide) rfl (fun ls hl => ?_)
        refine lv_aload_n C.1 C.2.1 dX7_laysWord_100 rfl (lv_at hl 1 rfl) ?_
        refine r_tF C hK hP hT cl_7 (k := 6) (by decide) wd_1150 rfl dX7_laysWord_101 h (fun b2 h => ?_)
        refine lv_aload_n C.1 C.2.1 dX7_laysWord_104 rfl (lv_at hl 1 rfl) ?_
        refine r_tI C hK hP hT cl_7 (k := 7) (by decide) wd_1151 rfl dX7_laysWord_105 h (fun x3 h => ?_)
        refine lv_iload C.1 C.2.1 dX7_laysWord_108 (lv_at hl 0 rfl) ?_
        refine r_sI C hK hP hS dX7_laysWord_110 h (fun M4 H locs h hP hS => ?_)
        refine lv_aload_n C.1 C.2.1 dX7_laysWord_111 rfl (lv_at hl 1 rfl) ?_
        refine lv_dup C.1 C.2.1 dX7_laysWord_112 rfl ?_
        refine r_tI C hK hP hT cl_7 (k := 7) (by decide) wd_1151 rfl dX7_laysWord_113 h (fun x5 h => ?_)
        refine lv_iload C.1 C.2.1 dX7_laysWord_116 (lv_at hl 0 rfl) ?_
        refine b_le (tgt := 125) C dX7_laysWord_118 (by decide) h (fun h => ?_) (fun h => ?_)
        · refine lv_iconst (v := 0) C.1 C.2.1 dX7_laysWord_125 (by decide) ?_
          exact J126 (M4) (v3) (a0) (x5) (0) _ _ _ hP hS (lv_sub hl [1, 2, 3, 4] rfl) h
        · refine lv_iconst (v := 1) C.1 C.2.1 dX7_laysWord_121 (by decide) ?_
          refine lv_goto (tgt := 126) C.1 C.2.1 dX7_laysWord_122 (by decide) ?_
          exact J126 (M4) (v3) (a0) (x5) (1) _ _ _ hP hS (lv_sub hl [1, 2, 3, 4] rfl) h
  have J84 : ∀ (M : Mm) (H : Heap) (locs : List Loc) (ls : Array Slot), HM G Sh M H → SS G s s.heap.size H locs → lv_has ls 5 [(0, .ref a0), (1, .int a1), (2, .int a2)] → fX7_laysWord_84 n Sh a0 a1 a2 M = some r → W p l e rmX7_laysWord s m args below meth c H locs 0 0 (MQ below (QG G Sh r none) args s rmX7_laysWord.cells rmX7_laysWord.slots (AA G)) (F0 m 84 ls []) := by
    intro M H locs ls hP hS hl h
    unfold fX7_laysWord_84 at h
    refine lv_bipush (v := 24) C.1 C.2.1 dX7_laysWord_84 (by decide) ?_
    refine lv_istore_n (lv' := [(3, .int 24), (0, .ref a0), (1, .int a1), (2, .int a2)]) C.1 C.2.1 dX7_laysWord_86 rfl hl (by decide) rfl (fun ls hl => ?_)
    exact J87  n (24) M _ _ _ hP hS (lv_sub hl [1, 2, 3, 0] rfl) h
  have J35 : ∀ (k : Nat) (v3 : Int32) (M : Mm) (H : Heap) (locs : List Loc) (ls : Array Slot), HM G Sh M H → SS G s s.heap.size H locs → lv_has ls 5 [(0, .ref a0), (1, .int a1), (2, .int a2), (3, .int v3)] → iter k (fun s => fX7_laysWord_35b n Sh a0 a1 a2 s.2 s.1) (v3, M) = some r → W p l e rmX7_laysWord s m args below meth c H locs 0 0 (MQ below (QG G Sh r none) args s rmX7_laysWord.cells rmX7_laysWord.slots (AA G)) (F0 m 35 ls []) := by
    intro k
    induction k with
    | zero => intro v3 M H locs ls hP hS hl h; exact (iter_0 h).elim
    | succ k ih1 =>
      intro v3 M H locs ls hP hS hl h
      obtain ⟨z1, h, hz1⟩ := iter_some h
      replace h : fX7_laysWord_35b n Sh a0 a1 a2 M v3 = some z1 := h
      have J74 : ∀ (M : Mm) (v3 : Int32) (t0 : Nat) (t1 : Int32) (t2 : Int32) (H : Heap) (locs : List Loc) (ls : Array Slot), HM G Sh M H → SS G s s.heap.size H locs → lv_has ls 5 [(0, .ref a0), (1, .int a1), (2, .int a2), (3, .int v3)] → fX7_laysWord_74 n Sh a0 a1 a2 M v3 t0 t1 t2 = some z1 → W p l e rmX7_laysWord s m args below meth c H locs 0 0 (MQ below (QG G Sh r none) args s rmX7_laysWord.cells rmX7_laysWord.slots (AA G)) (F0 m 74 ls [.int t2, .int t1, .ref t0]) := by
        intro M v3 t0 t1 t2 H locs ls hP hS hl h
        unfold fX7_laysWord_74 at h
        refine lv_iadd C.1 C.2.1 dX7_laysWord_74 ?_
        refine r_pI C hK hP hS cl_7 (k := 7) (by decide) wd_1151 rfl rfl (tyX7_ok 7 (by decide)) dX7_laysWord_75 h (fun M6 H locs h hP hS => ?_)
        refine lv_iinc (v := (v3 + (-8))) (lv' := [(3, .int (v3 + (-8))), (0, .ref a0), (1, .int a1), (2, .int a2)]) C.1 C.2.1 dX7_laysWord_78 hl (k := 3) rfl rfl (by decide) rfl (fun ls hl => ?_)
        refine lv_goto (tgt := 35) C.1 C.2.1 dX7_laysWord_81 (by decide) ?_
        have e := Option.some.inj h
        rw [← e] at hz1
        exact ih1 ((v3 + (-8))) M6 _ _ _ hP hS (lv_sub hl [1, 2, 3, 0] rfl) (itK_inl hz1)
      unfold fX7_laysWord_35b at h
      refine lv_iload_n C.1 C.2.1 dX7_laysWord_35 rfl (lv_at hl 3 rfl) ?_
      refine b_lt (tgt := 84) C dX7_laysWord_36 (by decide) h (fun h => ?_) (fun h => ?_)
      · obtain ⟨w1, h, e⟩ := mS h
        rw [← e] at hz1
        replace e := itK_inr hz1
        rw [e] at h
        exact J84 (M) _ _ _ hP hS (lv_sub hl [0, 1, 2] rfl) h
      · refine lv_iload_n C.1 C.2.1 dX7_laysWord_39 rfl (lv_at hl 1 rfl) ?_
        refine lv_iload_n C.1 C.2.1 dX7_laysWord_40 rfl (lv_at hl 3 rfl) ?_
        refine lv_ishr C.1 C.2.1 dX7_laysWord_41 ?_
        refine lv_sipush (v := 255) C.1 C.2.1 dX7_laysWord_42 (by decide) ?_
        refine lv_iand C.1 C.2.1 dX7_laysWord_45 ?_
        refine lv_istore (lv' := [(4, .int ((a1 >>> (v3 &&& 31)) &&& 255)), (0, .ref a0), (1, .int a1), (2, .int a2), (3, .int v3)]) C.1 C.2.1 dX7_laysWord_46 hl (by decide) rfl (fun ls hl => ?_)
        refine lv_aload_n C.1 C.2.1 dX7_laysWord_48 rfl (lv_at hl 1 rfl) ?_
        refine r_tF C hK hP hT cl_7 (k := 6) (by decide) wd_1150 rfl dX7_laysWord_49 h (fun b7 h => ?_)
        refine lv_aload_n C.1 C.2.1 dX7_laysWord_52 rfl (lv_at hl 1 rfl) ?_
        refine r_tI C hK hP hT cl_7 (k := 7) (by decide) wd_1151 rfl dX7_laysWord_53 h (fun x8 h => ?_)
        refine lv_iload C.1 C.2.1 dX7_laysWord_56 (lv_at hl 0 rfl) ?_
        refine r_sI C hK hP hS dX7_laysWord_58 h (fun M9 H locs h hP hS => ?_)
        refine lv_aload_n C.1 C.2.1 dX7_laysWord_59 rfl (lv_at hl 1 rfl) ?_
        refine lv_dup C.1 C.2.1 dX7_laysWord_60 rfl ?_
        refine r_tI C hK hP hT cl_7 (k := 7) (by decide) wd_1151 rfl dX7_laysWord_61 h (fun x10 h => ?_)
        refine lv_iload C.1 C.2.1 dX7_laysWord_64 (lv_at hl 0 rfl) ?_
        refine b_le (tgt := 73) C dX7_laysWord_66 (by decide) h (fun h => ?_) (fun h => ?_)
        · refine lv_iconst (v := 0) C.1 C.2.1 dX7_laysWord_73 (by decide) ?_
          exact J74 (M9) (v3) (a0) (x10) (0) _ _ _ hP hS (lv_sub hl [1, 2, 3, 4] rfl) h
        · refine lv_iconst (v := 1) C.1 C.2.1 dX7_laysWord_69 (by decide) ?_
          refine lv_goto (tgt := 74) C.1 C.2.1 dX7_laysWord_70 (by decide) ?_
          exact J74 (M9) (v3) (a0) (x10) (1) _ _ _ hP hS (lv_sub hl [1, 2, 3, 4] rfl) h
  have J32 : ∀ (M : Mm) (H : Heap) (locs : List Loc) (ls : Array Slot), HM G Sh M H → SS G s s.heap.size H locs → lv_has ls 5 [(0, .ref a0), (1, .int a1), (2, .int a2)] → fX7_laysWord_32 n Sh a0 a1 a2 M = some r → W p l e rmX7_laysWord s m args below meth c H locs 0 0 (MQ below (QG G Sh r none) args s rmX7_laysWord.cells rmX7_laysWord.slots (AA G)) (F0 m 32 ls []) := by
    intro M H locs ls hP hS hl h
    unfold fX7_laysWord_32 at h
    refine lv_bipush (v := 24) C.1 C.2.1 dX7_laysWord_32 (by decide) ?_
    refine lv_istore_n (lv' := [(3, .int 24), (0, .ref a0), (1, .int a1), (2, .int a2)]) C.1 C.2.1 dX7_laysWord_34 rfl hl (by decide) rfl (fun ls hl => ?_)
    exact J35  n (24) M _ _ _ hP hS (lv_sub hl [1, 2, 3, 0] rfl) h
  unfold fX7_laysWord at h
  refine lv_iload_n C.1 C.2.1 dX7_laysWord_0 rfl (lv_at hl 1 rfl) ?_
  refine b_eq (tgt := 32) C dX7_laysWord_1 (by decide) h (fun h => ?_) (fun h => ?_)
  · exact J32 (M) _ _ _ hP hS (lv_sub hl [0, 1, 2] rfl) h
  · refine lv_aload_n C.1 C.2.1 dX7_laysWord_4 rfl (lv_at hl 0 rfl) ?_
    refine r_tI C hK hP hT cl_7 (k := 7) (by decide) wd_1151 rfl dX7_laysWord_5 h (fun x11 h => ?_)
    refine b_le (tgt := 32) C dX7_laysWord_8 (by decide) h (fun h => ?_) (fun h => ?_)
    · exact J32 (M) _ _ _ hP hS (lv_sub hl [0, 1, 2] rfl) h
    · refine lv_aload_n C.1 C.2.1 dX7_laysWord_11 rfl (lv_at hl 0 rfl) ?_
      refine r_tF C hK hP hT cl_7 (k := 6) (by decide) wd_1150 rfl dX7_laysWord_12 h (fun b12 h => ?_)
      refine lv_aload_n C.1 C.2.1 dX7_laysWord_15 rfl (lv_at hl 0 rfl) ?_
      refine r_tI C hK hP hT cl_7 (k := 7) (by decide) wd_1151 rfl dX7_laysWord_16 h (fun x13 h => ?_)
      refine lv_bipush (v := 32) C.1 C.2.1 dX7_laysWord_19 (by decide) ?_
      refine r_sI C hK hP hS dX7_laysWord_21 h (fun M14 H locs h hP hS => ?_)
      refine lv_aload_n C.1 C.2.1 dX7_laysWord_22 rfl (lv_at hl 0 rfl) ?_
      refine lv_dup C.1 C.2.1 dX7_laysWord_23 rfl ?_
      refine r_tI C hK hP hT cl_7 (k := 7) (by decide) wd_1151 rfl dX7_laysWord_24 h (fun x15 h => ?_)
      refine lv_iconst (v := 1) C.1 C.2.1 dX7_laysWord_27 (by decide) ?_
      refine lv_iadd C.1 C.2.1 dX7_laysWord_28 ?_
      refine r_qI C hK hP hS hT cl_7 (k := 7) (by decide) wd_1151 rfl rfl (tyX7_ok 7 (by decide)) dX7_laysWord_29 h (fun M16 H locs h hP hS => ?_)
      exact J32 (M16) _ _ _ hP hS (lv_sub hl [0, 1, 2] rfl) h
theorem dX7_four_0 : decode cX7_four 0 = .ok (.iload_n 0, 1) := by decide +kernel
theorem dX7_four_1 : decode cX7_four 1 = .ok (.bipush 24, 2) := by decide +kernel
theorem dX7_four_3 : decode cX7_four 3 = .ok (.ishl, 1) := by decide +kernel
theorem dX7_four_4 : decode cX7_four 4 = .ok (.iload_n 1, 1) := by decide +kernel
theorem dX7_four_5 : decode cX7_four 5 = .ok (.bipush 16, 2) := by decide +kernel
theorem dX7_four_7 : decode cX7_four 7 = .ok (.ishl, 1) := by decide +kernel
theorem dX7_four_8 : decode cX7_four 8 = .ok (.ior, 1) := by decide +kernel
theorem dX7_four_9 : decode cX7_four 9 = .ok (.iload_n 2, 1) := by decide +kernel
theorem dX7_four_10 : decode cX7_four 10 = .ok (.bipush 8, 2) := by decide +kernel
theorem dX7_four_12 : decode cX7_four 12 = .ok (.ishl, 1) := by decide +kernel
theorem dX7_four_13 : decode cX7_four 13 = .ok (.ior, 1) := by decide +kernel
theorem dX7_four_14 : decode cX7_four 14 = .ok (.iload_n 3, 1) := by decide +kernel
theorem dX7_four_15 : decode cX7_four 15 = .ok (.ior, 1) := by decide +kernel
theorem dX7_four_16 : decode cX7_four 16 = .ok (.ireturn, 1) := by decide +kernel
abbrev rmX7_four : Room := { frames := 1, cells := 0, slots := 0, locals := 40 }
noncomputable def fX7_four (n : Nat) (Sh : Sp) (M : Mm) (a0 : Int32) (a1 : Int32) (a2 : Int32) (a3 : Int32) : Option Int32 :=
  some ((((a0 <<< (24 &&& 31)) ||| (a1 <<< (16 &&& 31))) ||| (a2 <<< (8 &&& 31))) ||| a3)
set_option maxRecDepth 100000 in
set_option maxHeartbeats 4000000 in
theorem kX7_four {l : Launch} {G : Gt} {n : Nat} {Sh : Sp} {M : Mm} {a0 : Int32} {a1 : Int32} {a2 : Int32} {a3 : Int32} {r : Int32} (h : fX7_four n Sh M a0 a1 a2 a3 = some r) : Ct l yX7_four cX7_four 4 (some .int) rmX7_four G Sh M [.int a0, .int a1, .int a2, .int a3] (some (.int r)) M := by
  refine Ct.of (by decide) (Nat.le_of_ble_eq_true rfl) ?_
  intro p e s m args below meth c ls C hK hX hP hS hb hlk hr hl
  replace hl : lv_has ls 4 [(0, .int a0), (1, .int a1), (2, .int a2), (3, .int a3)] := hl
  unfold fX7_four at h
  refine lv_iload_n C.1 C.2.1 dX7_four_0 rfl (lv_at hl 0 rfl) ?_
  refine lv_bipush (v := 24) C.1 C.2.1 dX7_four_1 (by decide) ?_
  refine lv_ishl C.1 C.2.1 dX7_four_3 ?_
  refine lv_iload_n C.1 C.2.1 dX7_four_4 rfl (lv_at hl 1 rfl) ?_
  refine lv_bipush (v := 16) C.1 C.2.1 dX7_four_5 (by decide) ?_
  refine lv_ishl C.1 C.2.1 dX7_four_7 ?_
  refine lv_ior C.1 C.2.1 dX7_four_8 ?_
  refine lv_iload_n C.1 C.2.1 dX7_four_9 rfl (lv_at hl 2 rfl) ?_
  refine lv_bipush (v := 8) C.1 C.2.1 dX7_four_10 (by decide) ?_
  refine lv_ishl C.1 C.2.1 dX7_four_12 ?_
  refine lv_ior C.1 C.2.1 dX7_four_13 ?_
  refine lv_iload_n C.1 C.2.1 dX7_four_14 rfl (lv_at hl 3 rfl) ?_
  refine lv_ior C.1 C.2.1 dX7_four_15 ?_
  have e := Option.some.inj h
  exact q_i C hlk hP hS hr (by rw [← e]) rfl dX7_four_16
theorem dX7_laysRole_0 : decode cX7_laysRole 0 = .ok (.iload_n 1, 1) := by decide +kernel
theorem dX7_laysRole_1 : decode cX7_laysRole 1 = .ok (.tableswitch 222 2 10 #[51, 78, 97, 123, 142, 169, 222, 222, 195], 51) := by decide +kernel
theorem dX7_laysRole_52 : decode cX7_laysRole 52 = .ok (.aload_n 0, 1) := by decide +kernel
theorem dX7_laysRole_53 : decode cX7_laysRole 53 = .ok (.bipush 98, 2) := by decide +kernel
theorem dX7_laysRole_55 : decode cX7_laysRole 55 = .ok (.bipush 117, 2) := by decide +kernel
theorem dX7_laysRole_57 : decode cX7_laysRole 57 = .ok (.bipush 116, 2) := by decide +kernel
theorem dX7_laysRole_59 : decode cX7_laysRole 59 = .ok (.bipush 116, 2) := by decide +kernel
theorem dX7_laysRole_61 : decode cX7_laysRole 61 = .ok (.invokestatic 81, 3) := by decide +kernel
theorem dX7_laysRole_64 : decode cX7_laysRole 64 = .ok (.bipush 111, 2) := by decide +kernel
theorem dX7_laysRole_66 : decode cX7_laysRole 66 = .ok (.bipush 110, 2) := by decide +kernel
theorem dX7_laysRole_68 : decode cX7_laysRole 68 = .ok (.iconst 0, 1) := by decide +kernel
theorem dX7_laysRole_69 : decode cX7_laysRole 69 = .ok (.iconst 0, 1) := by decide +kernel
theorem dX7_laysRole_70 : decode cX7_laysRole 70 = .ok (.invokestatic 81, 3) := by decide +kernel
theorem dX7_laysRole_73 : decode cX7_laysRole 73 = .ok (.invokevirtual 85, 3) := by decide +kernel
theorem dX7_laysRole_76 : decode cX7_laysRole 76 = .ok (.goto 147, 3) := by decide +kernel
theorem dX7_laysRole_79 : decode cX7_laysRole 79 = .ok (.aload_n 0, 1) := by decide +kernel
theorem dX7_laysRole_80 : decode cX7_laysRole 80 = .ok (.bipush 108, 2) := by decide +kernel
theorem dX7_laysRole_82 : decode cX7_laysRole 82 = .ok (.bipush 105, 2) := by decide +kernel
theorem dX7_laysRole_84 : decode cX7_laysRole 84 = .ok (.bipush 110, 2) := by decide +kernel
theorem dX7_laysRole_86 : decode cX7_laysRole 86 = .ok (.bipush 107, 2) := by decide +kernel
theorem dX7_laysRole_88 : decode cX7_laysRole 88 = .ok (.invokestatic 81, 3) := by decide +kernel
theorem dX7_laysRole_91 : decode cX7_laysRole 91 = .ok (.iconst 0, 1) := by decide +kernel
theorem dX7_laysRole_92 : decode cX7_laysRole 92 = .ok (.invokevirtual 85, 3) := by decide +kernel
theorem dX7_laysRole_95 : decode cX7_laysRole 95 = .ok (.goto 128, 3) := by decide +kernel
theorem dX7_laysRole_98 : decode cX7_laysRole 98 = .ok (.aload_n 0, 1) := by decide +kernel
theorem dX7_laysRole_99 : decode cX7_laysRole 99 = .ok (.bipush 105, 2) := by decide +kernel
theorem dX7_laysRole_101 : decode cX7_laysRole 101 = .ok (.bipush 109, 2) := by decide +kernel
theorem dX7_laysRole_103 : decode cX7_laysRole 103 = .ok (.bipush 97, 2) := by decide +kernel
theorem dX7_laysRole_105 : decode cX7_laysRole 105 = .ok (.bipush 103, 2) := by decide +kernel
theorem dX7_laysRole_107 : decode cX7_laysRole 107 = .ok (.invokestatic 81, 3) := by decide +kernel
theorem dX7_laysRole_110 : decode cX7_laysRole 110 = .ok (.bipush 101, 2) := by decide +kernel
theorem dX7_laysRole_112 : decode cX7_laysRole 112 = .ok (.iconst 0, 1) := by decide +kernel
theorem dX7_laysRole_113 : decode cX7_laysRole 113 = .ok (.iconst 0, 1) := by decide +kernel
theorem dX7_laysRole_114 : decode cX7_laysRole 114 = .ok (.iconst 0, 1) := by decide +kernel
theorem dX7_laysRole_115 : decode cX7_laysRole 115 = .ok (.invokestatic 81, 3) := by decide +kernel
theorem dX7_laysRole_118 : decode cX7_laysRole 118 = .ok (.invokevirtual 85, 3) := by decide +kernel
theorem dX7_laysRole_121 : decode cX7_laysRole 121 = .ok (.goto 102, 3) := by decide +kernel
theorem dX7_laysRole_124 : decode cX7_laysRole 124 = .ok (.aload_n 0, 1) := by decide +kernel
theorem dX7_laysRole_125 : decode cX7_laysRole 125 = .ok (.bipush 101, 2) := by decide +kernel
theorem dX7_laysRole_127 : decode cX7_laysRole 127 = .ok (.bipush 100, 2) := by decide +kernel
theorem dX7_laysRole_129 : decode cX7_laysRole 129 = .ok (.bipush 105, 2) := by decide +kernel
theorem dX7_laysRole_131 : decode cX7_laysRole 131 = .ok (.bipush 116, 2) := by decide +kernel
theorem dX7_laysRole_133 : decode cX7_laysRole 133 = .ok (.invokestatic 81, 3) := by decide +kernel
theorem dX7_laysRole_136 : decode cX7_laysRole 136 = .ok (.iconst 0, 1) := by decide +kernel
theorem dX7_laysRole_137 : decode cX7_laysRole 137 = .ok (.invokevirtual 85, 3) := by decide +kernel
theorem dX7_laysRole_140 : decode cX7_laysRole 140 = .ok (.goto 83, 3) := by decide +kernel
theorem dX7_laysRole_143 : decode cX7_laysRole 143 = .ok (.aload_n 0, 1) := by decide +kernel
theorem dX7_laysRole_144 : decode cX7_laysRole 144 = .ok (.bipush 100, 2) := by decide +kernel
theorem dX7_laysRole_146 : decode cX7_laysRole 146 = .ok (.bipush 105, 2) := by decide +kernel
theorem dX7_laysRole_148 : decode cX7_laysRole 148 = .ok (.bipush 97, 2) := by decide +kernel
theorem dX7_laysRole_150 : decode cX7_laysRole 150 = .ok (.bipush 108, 2) := by decide +kernel
theorem dX7_laysRole_152 : decode cX7_laysRole 152 = .ok (.invokestatic 81, 3) := by decide +kernel
theorem dX7_laysRole_155 : decode cX7_laysRole 155 = .ok (.bipush 111, 2) := by decide +kernel
theorem dX7_laysRole_157 : decode cX7_laysRole 157 = .ok (.bipush 103, 2) := by decide +kernel
theorem dX7_laysRole_159 : decode cX7_laysRole 159 = .ok (.iconst 0, 1) := by decide +kernel
theorem dX7_laysRole_160 : decode cX7_laysRole 160 = .ok (.iconst 0, 1) := by decide +kernel
theorem dX7_laysRole_161 : decode cX7_laysRole 161 = .ok (.invokestatic 81, 3) := by decide +kernel
theorem dX7_laysRole_164 : decode cX7_laysRole 164 = .ok (.invokevirtual 85, 3) := by decide +kernel
theorem dX7_laysRole_167 : decode cX7_laysRole 167 = .ok (.goto 56, 3) := by decide +kernel
theorem dX7_laysRole_170 : decode cX7_laysRole 170 = .ok (.aload_n 0, 1) := by decide +kernel
theorem dX7_laysRole_171 : decode cX7_laysRole 171 = .ok (.bipush 116, 2) := by decide +kernel
theorem dX7_laysRole_173 : decode cX7_laysRole 173 = .ok (.bipush 97, 2) := by decide +kernel
theorem dX7_laysRole_175 : decode cX7_laysRole 175 = .ok (.bipush 98, 2) := by decide +kernel
theorem dX7_laysRole_177 : decode cX7_laysRole 177 = .ok (.bipush 108, 2) := by decide +kernel
theorem dX7_laysRole_179 : decode cX7_laysRole 179 = .ok (.invokestatic 81, 3) := by decide +kernel
theorem dX7_laysRole_182 : decode cX7_laysRole 182 = .ok (.bipush 101, 2) := by decide +kernel
theorem dX7_laysRole_184 : decode cX7_laysRole 184 = .ok (.iconst 0, 1) := by decide +kernel
theorem dX7_laysRole_185 : decode cX7_laysRole 185 = .ok (.iconst 0, 1) := by decide +kernel
theorem dX7_laysRole_186 : decode cX7_laysRole 186 = .ok (.iconst 0, 1) := by decide +kernel
theorem dX7_laysRole_187 : decode cX7_laysRole 187 = .ok (.invokestatic 81, 3) := by decide +kernel
theorem dX7_laysRole_190 : decode cX7_laysRole 190 = .ok (.invokevirtual 85, 3) := by decide +kernel
theorem dX7_laysRole_193 : decode cX7_laysRole 193 = .ok (.goto 30, 3) := by decide +kernel
theorem dX7_laysRole_196 : decode cX7_laysRole 196 = .ok (.aload_n 0, 1) := by decide +kernel
theorem dX7_laysRole_197 : decode cX7_laysRole 197 = .ok (.bipush 104, 2) := by decide +kernel
theorem dX7_laysRole_199 : decode cX7_laysRole 199 = .ok (.bipush 101, 2) := by decide +kernel
theorem dX7_laysRole_201 : decode cX7_laysRole 201 = .ok (.bipush 97, 2) := by decide +kernel
theorem dX7_laysRole_203 : decode cX7_laysRole 203 = .ok (.bipush 100, 2) := by decide +kernel
theorem dX7_laysRole_205 : decode cX7_laysRole 205 = .ok (.invokestatic 81, 3) := by decide +kernel
theorem dX7_laysRole_208 : decode cX7_laysRole 208 = .ok (.bipush 101, 2) := by decide +kernel
theorem dX7_laysRole_210 : decode cX7_laysRole 210 = .ok (.bipush 114, 2) := by decide +kernel
theorem dX7_laysRole_212 : decode cX7_laysRole 212 = .ok (.iconst 0, 1) := by decide +kernel
theorem dX7_laysRole_213 : decode cX7_laysRole 213 = .ok (.iconst 0, 1) := by decide +kernel
theorem dX7_laysRole_214 : decode cX7_laysRole 214 = .ok (.invokestatic 81, 3) := by decide +kernel
theorem dX7_laysRole_217 : decode cX7_laysRole 217 = .ok (.invokevirtual 85, 3) := by decide +kernel
theorem dX7_laysRole_220 : decode cX7_laysRole 220 = .ok (.goto 3, 3) := by decide +kernel
theorem dX7_laysRole_223 : decode cX7_laysRole 223 = .ok (.return_, 1) := by decide +kernel
abbrev rmX7_laysRole : Room := { frames := 2, cells := 0, slots := 0, locals := 64 }
noncomputable def fX7_laysRole (n : Nat) (Sh : Sp) (M : Mm) (a0 : Nat) (a1 : Int32) : Option Mm :=
  if a1 = 2 then
    (fX7_four n Sh M 98 117 116 116).bind fun r1 =>
    (fX7_four n Sh M 111 110 0 0).bind fun r2 =>
    (fX7_laysWord n Sh M a0 r1 r2).bind fun r3 =>
    some r3
  else if a1 = 3 then
    (fX7_four n Sh M 108 105 110 107).bind fun r4 =>
    (fX7_laysWord n Sh M a0 r4 0).bind fun r5 =>
    some r5
  else if a1 = 4 then
    (fX7_four n Sh M 105 109 97 103).bind fun r6 =>
    (fX7_four n Sh M 101 0 0 0).bind fun r7 =>
    (fX7_laysWord n Sh M a0 r6 r7).bind fun r8 =>
    some r8
  else if a1 = 5 then
    (fX7_four n Sh M 101 100 105 116).bind fun r9 =>
    (fX7_laysWord n Sh M a0 r9 0).bind fun r10 =>
    some r10
  else if a1 = 6 then
    (fX7_four n Sh M 100 105 97 108).bind fun r11 =>
    (fX7_four n Sh M 111 103 0 0).bind fun r12 =>
    (fX7_laysWord n Sh M a0 r11 r12).bind fun r13 =>
    some r13
  else if a1 = 7 then
    (fX7_four n Sh M 116 97 98 108).bind fun r14 =>
    (fX7_four n Sh M 101 0 0 0).bind fun r15 =>
    (fX7_laysWord n Sh M a0 r14 r15).bind fun r16 =>
    some r16
  else if a1 = 8 then
    some M
  else if a1 = 9 then
    some M
  else if a1 = 10 then
    (fX7_four n Sh M 104 101 97 100).bind fun r17 =>
    (fX7_four n Sh M 101 114 0 0).bind fun r18 =>
    (fX7_laysWord n Sh M a0 r17 r18).bind fun r19 =>
    some r19
  else
    some M
set_option maxRecDepth 100000 in
set_option maxHeartbeats 4000000 in
theorem kX7_laysRole {l : Launch} {G : Gt} {n : Nat} {Sh : Sp} {M : Mm} {a0 : Nat} {a1 : Int32} (hT : Sh a0 = some (.inl 7)) {r : Mm} (h : fX7_laysRole n Sh M a0 a1 = some r) : Ct l yX7_laysRole cX7_laysRole 2 none rmX7_laysRole G Sh M [.ref a0, .int a1] none r := by
  refine Ct.of (by decide) (Nat.le_of_ble_eq_true rfl) ?_
  intro p e s m args below meth c ls C hK hX hP hS hb hlk hr hl
  replace hl : lv_has ls 2 [(0, .ref a0), (1, .int a1)] := hl
  unfold fX7_laysRole at h
  refine lv_iload_n C.1 C.2.1 dX7_laysRole_0 rfl (lv_at hl 1 rfl) ?_
  by_cases q0 : a1 = 2
  · rw [if_pos q0] at h
    refine lv_tableIn (off := 51) (tgt := 52) C.1 C.2.1 dX7_laysRole_1 (by rw [q0]; decide) (by rw [q0]; decide) (by rw [q0]; decide) (by decide) ?_
    refine lv_aload_n C.1 C.2.1 dX7_laysRole_52 rfl (lv_at hl 0 rfl) ?_
    refine lv_bipush (v := 98) C.1 C.2.1 dX7_laysRole_53 (by decide) ?_
    refine lv_bipush (v := 117) C.1 C.2.1 dX7_laysRole_55 (by decide) ?_
    refine lv_bipush (v := 116) C.1 C.2.1 dX7_laysRole_57 (by decide) ?_
    refine lv_bipush (v := 116) C.1 C.2.1 dX7_laysRole_59 (by decide) ?_
    obtain ⟨r1, hc, h⟩ := bS h
    refine r_S1 C hK hX hb hP hS hl.1 (kX7_four hc) wd_1335 mo_X7_four wd_1336 ⟨Nat.le_of_ble_eq_true rfl, Nat.le_of_ble_eq_true rfl⟩ ⟨Nat.le_of_ble_eq_true rfl, Nat.le_of_ble_eq_true rfl⟩ rfl (rest := [.ref a0]) rfl (Nat.le_of_ble_eq_true rfl) dX7_laysRole_61 (fun H locs hP hS => ?_)
    refine lv_bipush (v := 111) C.1 C.2.1 dX7_laysRole_64 (by decide) ?_
    refine lv_bipush (v := 110) C.1 C.2.1 dX7_laysRole_66 (by decide) ?_
    refine lv_iconst (v := 0) C.1 C.2.1 dX7_laysRole_68 (by decide) ?_
    refine lv_iconst (v := 0) C.1 C.2.1 dX7_laysRole_69 (by decide) ?_
    obtain ⟨r2, hc, h⟩ := bS h
    refine r_S1 C hK hX hb hP hS hl.1 (kX7_four hc) wd_1335 mo_X7_four wd_1336 ⟨Nat.le_of_ble_eq_true rfl, Nat.le_of_ble_eq_true rfl⟩ ⟨Nat.le_of_ble_eq_true rfl, Nat.le_of_ble_eq_true rfl⟩ rfl (rest := [.int r1, .ref a0]) rfl (Nat.le_of_ble_eq_true rfl) dX7_laysRole_70 (fun H locs hP hS => ?_)
    obtain ⟨r3, hc, h⟩ := bS h
    refine r_V0 C hK hX hb hP hS hl.1 (kX7_laysWord (hT) hc) hT cl_7 wd_1338 mo_X7_laysWord wd_1340 wd_51 ⟨Nat.le_of_ble_eq_true rfl, Nat.le_of_ble_eq_true rfl⟩ ⟨Nat.le_of_ble_eq_true rfl, Nat.le_of_ble_eq_true rfl⟩ rfl (rest := []) rfl (Nat.le_of_ble_eq_true rfl) dX7_laysRole_73 (fun H locs hP hS => ?_)
    refine lv_goto (tgt := 223) C.1 C.2.1 dX7_laysRole_76 (by decide) ?_
    have e := Option.some.inj h
    exact q_v C hlk hP hS hr rfl e.symm dX7_laysRole_223
  rw [if_neg q0] at h
  by_cases q1 : a1 = 3
  · rw [if_pos q1] at h
    refine lv_tableIn (off := 78) (tgt := 79) C.1 C.2.1 dX7_laysRole_1 (by rw [q1]; decide) (by rw [q1]; decide) (by rw [q1]; decide) (by decide) ?_
    refine lv_aload_n C.1 C.2.1 dX7_laysRole_79 rfl (lv_at hl 0 rfl) ?_
    refine lv_bipush (v := 108) C.1 C.2.1 dX7_laysRole_80 (by decide) ?_
    refine lv_bipush (v := 105) C.1 C.2.1 dX7_laysRole_82 (by decide) ?_
    refine lv_bipush (v := 110) C.1 C.2.1 dX7_laysRole_84 (by decide) ?_
    refine lv_bipush (v := 107) C.1 C.2.1 dX7_laysRole_86 (by decide) ?_
    obtain ⟨r4, hc, h⟩ := bS h
    refine r_S1 C hK hX hb hP hS hl.1 (kX7_four hc) wd_1335 mo_X7_four wd_1336 ⟨Nat.le_of_ble_eq_true rfl, Nat.le_of_ble_eq_true rfl⟩ ⟨Nat.le_of_ble_eq_true rfl, Nat.le_of_ble_eq_true rfl⟩ rfl (rest := [.ref a0]) rfl (Nat.le_of_ble_eq_true rfl) dX7_laysRole_88 (fun H locs hP hS => ?_)
    refine lv_iconst (v := 0) C.1 C.2.1 dX7_laysRole_91 (by decide) ?_
    obtain ⟨r5, hc, h⟩ := bS h
    refine r_V0 C hK hX hb hP hS hl.1 (kX7_laysWord (hT) hc) hT cl_7 wd_1338 mo_X7_laysWord wd_1340 wd_51 ⟨Nat.le_of_ble_eq_true rfl, Nat.le_of_ble_eq_true rfl⟩ ⟨Nat.le_of_ble_eq_true rfl, Nat.le_of_ble_eq_true rfl⟩ rfl (rest := []) rfl (Nat.le_of_ble_eq_true rfl) dX7_laysRole_92 (fun H locs hP hS => ?_)
    refine lv_goto (tgt := 223) C.1 C.2.1 dX7_laysRole_95 (by decide) ?_
    have e := Option.some.inj h
    exact q_v C hlk hP hS hr rfl e.symm dX7_laysRole_223
  rw [if_neg q1] at h
  by_cases q2 : a1 = 4
  · rw [if_pos q2] at h
    refine lv_tableIn (off := 97) (tgt := 98) C.1 C.2.1 dX7_laysRole_1 (by rw [q2]; decide) (by rw [q2]; decide) (by rw [q2]; decide) (by decide) ?_
    refine lv_aload_n C.1 C.2.1 dX7_laysRole_98 rfl (lv_at hl 0 rfl) ?_
    refine lv_bipush (v := 105) C.1 C.2.1 dX7_laysRole_99 (by decide) ?_
    refine lv_bipush (v := 109) C.1 C.2.1 dX7_laysRole_101 (by decide) ?_
    refine lv_bipush (v := 97) C.1 C.2.1 dX7_laysRole_103 (by decide) ?_
    refine lv_bipush (v := 103) C.1 C.2.1 dX7_laysRole_105 (by decide) ?_
    obtain ⟨r6, hc, h⟩ := bS h
    refine r_S1 C hK hX hb hP hS hl.1 (kX7_four hc) wd_1335 mo_X7_four wd_1336 ⟨Nat.le_of_ble_eq_true rfl, Nat.le_of_ble_eq_true rfl⟩ ⟨Nat.le_of_ble_eq_true rfl, Nat.le_of_ble_eq_true rfl⟩ rfl (rest := [.ref a0]) rfl (Nat.le_of_ble_eq_true rfl) dX7_laysRole_107 (fun H locs hP hS => ?_)
    refine lv_bipush (v := 101) C.1 C.2.1 dX7_laysRole_110 (by decide) ?_
    refine lv_iconst (v := 0) C.1 C.2.1 dX7_laysRole_112 (by decide) ?_
    refine lv_iconst (v := 0) C.1 C.2.1 dX7_laysRole_113 (by decide) ?_
    refine lv_iconst (v := 0) C.1 C.2.1 dX7_laysRole_114 (by decide) ?_
    obtain ⟨r7, hc, h⟩ := bS h
    refine r_S1 C hK hX hb hP hS hl.1 (kX7_four hc) wd_1335 mo_X7_four wd_1336 ⟨Nat.le_of_ble_eq_true rfl, Nat.le_of_ble_eq_true rfl⟩ ⟨Nat.le_of_ble_eq_true rfl, Nat.le_of_ble_eq_true rfl⟩ rfl (rest := [.int r6, .ref a0]) rfl (Nat.le_of_ble_eq_true rfl) dX7_laysRole_115 (fun H locs hP hS => ?_)
    obtain ⟨r8, hc, h⟩ := bS h
    refine r_V0 C hK hX hb hP hS hl.1 (kX7_laysWord (hT) hc) hT cl_7 wd_1338 mo_X7_laysWord wd_1340 wd_51 ⟨Nat.le_of_ble_eq_true rfl, Nat.le_of_ble_eq_true rfl⟩ ⟨Nat.le_of_ble_eq_true rfl, Nat.le_of_ble_eq_true rfl⟩ rfl (rest := []) rfl (Nat.le_of_ble_eq_true rfl) dX7_laysRole_118 (fun H locs hP hS => ?_)
    refine lv_goto (tgt := 223) C.1 C.2.1 dX7_laysRole_121 (by decide) ?_
    have e := Option.some.inj h
    exact q_v C hlk hP hS hr rfl e.symm dX7_laysRole_223
  rw [if_neg q2] at h
  by_cases q3 : a1 = 5
  · rw [if_pos q3] at h
    refine lv_tableIn (off := 123) (tgt := 124) C.1 C.2.1 dX7_laysRole_1 (by rw [q3]; decide) (by rw [q3]; decide) (by rw [q3]; decide) (by decide) ?_
    refine lv_aload_n C.1 C.2.1 dX7_laysRole_124 rfl (lv_at hl 0 rfl) ?_
    refine lv_bipush (v := 101) C.1 C.2.1 dX7_laysRole_125 (by decide) ?_
    refine lv_bipush (v := 100) C.1 C.2.1 dX7_laysRole_127 (by decide) ?_
    refine lv_bipush (v := 105) C.1 C.2.1 dX7_laysRole_129 (by decide) ?_
    refine lv_bipush (v := 116) C.1 C.2.1 dX7_laysRole_131 (by decide) ?_
    obtain ⟨r9, hc, h⟩ := bS h
    refine r_S1 C hK hX hb hP hS hl.1 (kX7_four hc) wd_1335 mo_X7_four wd_1336 ⟨Nat.le_of_ble_eq_true rfl, Nat.le_of_ble_eq_true rfl⟩ ⟨Nat.le_of_ble_eq_true rfl, Nat.le_of_ble_eq_true rfl⟩ rfl (rest := [.ref a0]) rfl (Nat.le_of_ble_eq_true rfl) dX7_laysRole_133 (fun H locs hP hS => ?_)
    refine lv_iconst (v := 0) C.1 C.2.1 dX7_laysRole_136 (by decide) ?_
    obtain ⟨r10, hc, h⟩ := bS h
    refine r_V0 C hK hX hb hP hS hl.1 (kX7_laysWord (hT) hc) hT cl_7 wd_1338 mo_X7_laysWord wd_1340 wd_51 ⟨Nat.le_of_ble_eq_true rfl, Nat.le_of_ble_eq_true rfl⟩ ⟨Nat.le_of_ble_eq_true rfl, Nat.le_of_ble_eq_true rfl⟩ rfl (rest := []) rfl (Nat.le_of_ble_eq_true rfl) dX7_laysRole_137 (fun H locs hP hS => ?_)
    refine lv_goto (tgt := 223) C.1 C.2.1 dX7_laysRole_140 (by decide) ?_
    have e := Option.some.inj h
    exact q_v C hlk hP hS hr rfl e.symm dX7_laysRole_223
  rw [if_neg q3] at h
  by_cases q4 : a1 = 6
  · rw [if_pos q4] at h
    refine lv_tableIn (off := 142) (tgt := 143) C.1 C.2.1 dX7_laysRole_1 (by rw [q4]; decide) (by rw [q4]; decide) (by rw [q4]; decide) (by decide) ?_
    refine lv_aload_n C.1 C.2.1 dX7_laysRole_143 rfl (lv_at hl 0 rfl) ?_
    refine lv_bipush (v := 100) C.1 C.2.1 dX7_laysRole_144 (by decide) ?_
    refine lv_bipush (v := 105) C.1 C.2.1 dX7_laysRole_146 (by decide) ?_
    refine lv_bipush (v := 97) C.1 C.2.1 dX7_laysRole_148 (by decide) ?_
    refine lv_bipush (v := 108) C.1 C.2.1 dX7_laysRole_150 (by decide) ?_
    obtain ⟨r11, hc, h⟩ := bS h
    refine r_S1 C hK hX hb hP hS hl.1 (kX7_four hc) wd_1335 mo_X7_four wd_1336 ⟨Nat.le_of_ble_eq_true rfl, Nat.le_of_ble_eq_true rfl⟩ ⟨Nat.le_of_ble_eq_true rfl, Nat.le_of_ble_eq_true rfl⟩ rfl (rest := [.ref a0]) rfl (Nat.le_of_ble_eq_true rfl) dX7_laysRole_152 (fun H locs hP hS => ?_)
    refine lv_bipush (v := 111) C.1 C.2.1 dX7_laysRole_155 (by decide) ?_
    refine lv_bipush (v := 103) C.1 C.2.1 dX7_laysRole_157 (by decide) ?_
    refine lv_iconst (v := 0) C.1 C.2.1 dX7_laysRole_159 (by decide) ?_
    refine lv_iconst (v := 0) C.1 C.2.1 dX7_laysRole_160 (by decide) ?_
    obtain ⟨r12, hc, h⟩ := bS h
    refine r_S1 C hK hX hb hP hS hl.1 (kX7_four hc) wd_1335 mo_X7_four wd_1336 ⟨Nat.le_of_ble_eq_true rfl, Nat.le_of_ble_eq_true rfl⟩ ⟨Nat.le_of_ble_eq_true rfl, Nat.le_of_ble_eq_true rfl⟩ rfl (rest := [.int r11, .ref a0]) rfl (Nat.le_of_ble_eq_true rfl) dX7_laysRole_161 (fun H locs hP hS => ?_)
    obtain ⟨r13, hc, h⟩ := bS h
    refine r_V0 C hK hX hb hP hS hl.1 (kX7_laysWord (hT) hc) hT cl_7 wd_1338 mo_X7_laysWord wd_1340 wd_51 ⟨Nat.le_of_ble_eq_true rfl, Nat.le_of_ble_eq_true rfl⟩ ⟨Nat.le_of_ble_eq_true rfl, Nat.le_of_ble_eq_true rfl⟩ rfl (rest := []) rfl (Nat.le_of_ble_eq_true rfl) dX7_laysRole_164 (fun H locs hP hS => ?_)
    refine lv_goto (tgt := 223) C.1 C.2.1 dX7_laysRole_167 (by decide) ?_
    have e := Option.some.inj h
    exact q_v C hlk hP hS hr rfl e.symm dX7_laysRole_223
  rw [if_neg q4] at h
  by_cases q5 : a1 = 7
  · rw [if_pos q5] at h
    refine lv_tableIn (off := 169) (tgt := 170) C.1 C.2.1 dX7_laysRole_1 (by rw [q5]; decide) (by rw [q5]; decide) (by rw [q5]; decide) (by decide) ?_
    refine lv_aload_n C.1 C.2.1 dX7_laysRole_170 rfl (lv_at hl 0 rfl) ?_
    refine lv_bipush (v := 116) C.1 C.2.1 dX7_laysRole_171 (by decide) ?_
    refine lv_bipush (v := 97) C.1 C.2.1 dX7_laysRole_173 (by decide) ?_
    refine lv_bipush (v := 98) C.1 C.2.1 dX7_laysRole_175 (by decide) ?_
    refine lv_bipush (v := 108) C.1 C.2.1 dX7_laysRole_177 (by decide) ?_
    obtain ⟨r14, hc, h⟩ := bS h
    refine r_S1 C hK hX hb hP hS hl.1 (kX7_four hc) wd_1335 mo_X7_four wd_1336 ⟨Nat.le_of_ble_eq_true rfl, Nat.le_of_ble_eq_true rfl⟩ ⟨Nat.le_of_ble_eq_true rfl, Nat.le_of_ble_eq_true rfl⟩ rfl (rest := [.ref a0]) rfl (Nat.le_of_ble_eq_true rfl) dX7_laysRole_179 (fun H locs hP hS => ?_)
    refine lv_bipush (v := 101) C.1 C.2.1 dX7_laysRole_182 (by decide) ?_
    refine lv_iconst (v := 0) C.1 C.2.1 dX7_laysRole_184 (by decide) ?_
    refine lv_iconst (v := 0) C.1 C.2.1 dX7_laysRole_185 (by decide) ?_
    refine lv_iconst (v := 0) C.1 C.2.1 dX7_laysRole_186 (by decide) ?_
    obtain ⟨r15, hc, h⟩ := bS h
    refine r_S1 C hK hX hb hP hS hl.1 (kX7_four hc) wd_1335 mo_X7_four wd_1336 ⟨Nat.le_of_ble_eq_true rfl, Nat.le_of_ble_eq_true rfl⟩ ⟨Nat.le_of_ble_eq_true rfl, Nat.le_of_ble_eq_true rfl⟩ rfl (rest := [.int r14, .ref a0]) rfl (Nat.le_of_ble_eq_true rfl) dX7_laysRole_187 (fun H locs hP hS => ?_)
    obtain ⟨r16, hc, h⟩ := bS h
    refine r_V0 C hK hX hb hP hS hl.1 (kX7_laysWord (hT) hc) hT cl_7 wd_1338 mo_X7_laysWord wd_1340 wd_51 ⟨Nat.le_of_ble_eq_true rfl, Nat.le_of_ble_eq_true rfl⟩ ⟨Nat.le_of_ble_eq_true rfl, Nat.le_of_ble_eq_true rfl⟩ rfl (rest := []) rfl (Nat.le_of_ble_eq_true rfl) dX7_laysRole_190 (fun H locs hP hS => ?_)
    refine lv_goto (tgt := 223) C.1 C.2.1 dX7_laysRole_193 (by decide) ?_
    have e := Option.some.inj h
    exact q_v C hlk hP hS hr rfl e.symm dX7_laysRole_223
  rw [if_neg q5] at h
  by_cases q6 : a1 = 8
  · rw [if_pos q6] at h
    refine lv_tableIn (off := 222) (tgt := 223) C.1 C.2.1 dX7_laysRole_1 (by rw [q6]; decide) (by rw [q6]; decide) (by rw [q6]; decide) (by decide) ?_
    have e := Option.some.inj h
    exact q_v C hlk hP hS hr rfl e.symm dX7_laysRole_223
  rw [if_neg q6] at h
  by_cases q7 : a1 = 9
  · rw [if_pos q7] at h
    refine lv_tableIn (off := 222) (tgt := 223) C.1 C.2.1 dX7_laysRole_1 (by rw [q7]; decide) (by rw [q7]; decide) (by rw [q7]; decide) (by decide) ?_
    have e := Option.some.inj h
    exact q_v C hlk hP hS hr rfl e.symm dX7_laysRole_223
  rw [if_neg q7] at h
  by_cases q8 : a1 = 10
  · rw [if_pos q8] at h
    refine lv_tableIn (off := 195) (tgt := 196) C.1 C.2.1 dX7_laysRole_1 (by rw [q8]; decide) (by rw [q8]; decide) (by rw [q8]; decide) (by decide) ?_
    refine lv_aload_n C.1 C.2.1 dX7_laysRole_196 rfl (lv_at hl 0 rfl) ?_
    refine lv_bipush (v := 104) C.1 C.2.1 dX7_laysRole_197 (by decide) ?_
    refine lv_bipush (v := 101) C.1 C.2.1 dX7_laysRole_199 (by decide) ?_
    refine lv_bipush (v := 97) C.1 C.2.1 dX7_laysRole_201 (by decide) ?_
    refine lv_bipush (v := 100) C.1 C.2.1 dX7_laysRole_203 (by decide) ?_
    obtain ⟨r17, hc, h⟩ := bS h
    refine r_S1 C hK hX hb hP hS hl.1 (kX7_four hc) wd_1335 mo_X7_four wd_1336 ⟨Nat.le_of_ble_eq_true rfl, Nat.le_of_ble_eq_true rfl⟩ ⟨Nat.le_of_ble_eq_true rfl, Nat.le_of_ble_eq_true rfl⟩ rfl (rest := [.ref a0]) rfl (Nat.le_of_ble_eq_true rfl) dX7_laysRole_205 (fun H locs hP hS => ?_)
    refine lv_bipush (v := 101) C.1 C.2.1 dX7_laysRole_208 (by decide) ?_
    refine lv_bipush (v := 114) C.1 C.2.1 dX7_laysRole_210 (by decide) ?_
    refine lv_iconst (v := 0) C.1 C.2.1 dX7_laysRole_212 (by decide) ?_
    refine lv_iconst (v := 0) C.1 C.2.1 dX7_laysRole_213 (by decide) ?_
    obtain ⟨r18, hc, h⟩ := bS h
    refine r_S1 C hK hX hb hP hS hl.1 (kX7_four hc) wd_1335 mo_X7_four wd_1336 ⟨Nat.le_of_ble_eq_true rfl, Nat.le_of_ble_eq_true rfl⟩ ⟨Nat.le_of_ble_eq_true rfl, Nat.le_of_ble_eq_true rfl⟩ rfl (rest := [.int r17, .ref a0]) rfl (Nat.le_of_ble_eq_true rfl) dX7_laysRole_214 (fun H locs hP hS => ?_)
    obtain ⟨r19, hc, h⟩ := bS h
    refine r_V0 C hK hX hb hP hS hl.1 (kX7_laysWord (hT) hc) hT cl_7 wd_1338 mo_X7_laysWord wd_1340 wd_51 ⟨Nat.le_of_ble_eq_true rfl, Nat.le_of_ble_eq_true rfl⟩ ⟨Nat.le_of_ble_eq_true rfl, Nat.le_of_ble_eq_true rfl⟩ rfl (rest := []) rfl (Nat.le_of_ble_eq_true rfl) dX7_laysRole_217 (fun H locs hP hS => ?_)
    refine lv_goto (tgt := 223) C.1 C.2.1 dX7_laysRole_220 (by decide) ?_
    have e := Option.some.inj h
    exact q_v C hlk hP hS hr rfl e.symm dX7_laysRole_223
  rw [if_neg q8] at h
  refine lv_tableOut (tgt := 223) C.1 C.2.1 dX7_laysRole_1 (sw_out (x := a1) (lo := 2) (n := 9) (by decide) (fun j hj => match j, hj with | 0, _ => fun hx => q0 (hx.trans (by decide)) | 1, _ => fun hx => q1 (hx.trans (by decide)) | 2, _ => fun hx => q2 (hx.trans (by decide)) | 3, _ => fun hx => q3 (hx.trans (by decide)) | 4, _ => fun hx => q4 (hx.trans (by decide)) | 5, _ => fun hx => q5 (hx.trans (by decide)) | 6, _ => fun hx => q6 (hx.trans (by decide)) | 7, _ => fun hx => q7 (hx.trans (by decide)) | 8, _ => fun hx => q8 (hx.trans (by decide)) | (k + 9), hj => absurd hj (by omega))) (by decide) ?_
  have e := Option.some.inj h
  exact q_v C hlk hP hS hr rfl e.symm dX7_laysRole_223
theorem dX7_laysPhrase_0 : decode cX7_laysPhrase 0 = .ok (.aload_n 0, 1) := by decide +kernel
theorem dX7_laysPhrase_1 : decode cX7_laysPhrase 1 = .ok (.iload_n 1, 1) := by decide +kernel
theorem dX7_laysPhrase_2 : decode cX7_laysPhrase 2 = .ok (.invokevirtual 88, 3) := by decide +kernel
theorem dX7_laysPhrase_5 : decode cX7_laysPhrase 5 = .ok (.aload_n 0, 1) := by decide +kernel
theorem dX7_laysPhrase_6 : decode cX7_laysPhrase 6 = .ok (.aload_n 0, 1) := by decide +kernel
theorem dX7_laysPhrase_7 : decode cX7_laysPhrase 7 = .ok (.iload_n 1, 1) := by decide +kernel
theorem dX7_laysPhrase_8 : decode cX7_laysPhrase 8 = .ok (.iconst 3, 1) := by decide +kernel
theorem dX7_laysPhrase_9 : decode cX7_laysPhrase 9 = .ok (.invokevirtual 40, 3) := by decide +kernel
theorem dX7_laysPhrase_12 : decode cX7_laysPhrase 12 = .ok (.invokevirtual 91, 3) := by decide +kernel
theorem dX7_laysPhrase_15 : decode cX7_laysPhrase 15 = .ok (.aload_n 0, 1) := by decide +kernel
theorem dX7_laysPhrase_16 : decode cX7_laysPhrase 16 = .ok (.iload_n 1, 1) := by decide +kernel
theorem dX7_laysPhrase_17 : decode cX7_laysPhrase 17 = .ok (.iconst 3, 1) := by decide +kernel
theorem dX7_laysPhrase_18 : decode cX7_laysPhrase 18 = .ok (.invokevirtual 40, 3) := by decide +kernel
theorem dX7_laysPhrase_21 : decode cX7_laysPhrase 21 = .ok (.iconst 5, 1) := by decide +kernel
theorem dX7_laysPhrase_22 : decode cX7_laysPhrase 22 = .ok (.if_icmp .ne 8, 3) := by decide +kernel
theorem dX7_laysPhrase_25 : decode cX7_laysPhrase 25 = .ok (.aload_n 0, 1) := by decide +kernel
theorem dX7_laysPhrase_26 : decode cX7_laysPhrase 26 = .ok (.iload_n 1, 1) := by decide +kernel
theorem dX7_laysPhrase_27 : decode cX7_laysPhrase 27 = .ok (.invokevirtual 68, 3) := by decide +kernel
theorem dX7_laysPhrase_30 : decode cX7_laysPhrase 30 = .ok (.aload_n 0, 1) := by decide +kernel
theorem dX7_laysPhrase_31 : decode cX7_laysPhrase 31 = .ok (.iload_n 1, 1) := by decide +kernel
theorem dX7_laysPhrase_32 : decode cX7_laysPhrase 32 = .ok (.bipush 6, 2) := by decide +kernel
theorem dX7_laysPhrase_34 : decode cX7_laysPhrase 34 = .ok (.invokevirtual 40, 3) := by decide +kernel
theorem dX7_laysPhrase_37 : decode cX7_laysPhrase 37 = .ok (.iconst 1, 1) := by decide +kernel
theorem dX7_laysPhrase_38 : decode cX7_laysPhrase 38 = .ok (.if_icmp .ne 29, 3) := by decide +kernel
theorem dX7_laysPhrase_41 : decode cX7_laysPhrase 41 = .ok (.aload_n 0, 1) := by decide +kernel
theorem dX7_laysPhrase_42 : decode cX7_laysPhrase 42 = .ok (.bipush 100, 2) := by decide +kernel
theorem dX7_laysPhrase_44 : decode cX7_laysPhrase 44 = .ok (.bipush 105, 2) := by decide +kernel
theorem dX7_laysPhrase_46 : decode cX7_laysPhrase 46 = .ok (.bipush 115, 2) := by decide +kernel
theorem dX7_laysPhrase_48 : decode cX7_laysPhrase 48 = .ok (.bipush 97, 2) := by decide +kernel
theorem dX7_laysPhrase_50 : decode cX7_laysPhrase 50 = .ok (.invokestatic 81, 3) := by decide +kernel
theorem dX7_laysPhrase_53 : decode cX7_laysPhrase 53 = .ok (.bipush 98, 2) := by decide +kernel
theorem dX7_laysPhrase_55 : decode cX7_laysPhrase 55 = .ok (.bipush 108, 2) := by decide +kernel
theorem dX7_laysPhrase_57 : decode cX7_laysPhrase 57 = .ok (.bipush 101, 2) := by decide +kernel
theorem dX7_laysPhrase_59 : decode cX7_laysPhrase 59 = .ok (.bipush 100, 2) := by decide +kernel
theorem dX7_laysPhrase_61 : decode cX7_laysPhrase 61 = .ok (.invokestatic 81, 3) := by decide +kernel
theorem dX7_laysPhrase_64 : decode cX7_laysPhrase 64 = .ok (.invokevirtual 85, 3) := by decide +kernel
theorem dX7_laysPhrase_67 : decode cX7_laysPhrase 67 = .ok (.return_, 1) := by decide +kernel
abbrev rmX7_laysPhrase : Room := { frames := 7, cells := 0, slots := 0, locals := 177 }
noncomputable def fX7_laysPhrase_30 (n : Nat) (Sh : Sp) (a0 : Nat) (a1 : Int32) (M : Mm) : Option Mm :=
  (fX7_of n Sh M a0 a1 6).bind fun r1 =>
  if r1 = 1 then
    (fX7_four n Sh M 100 105 115 97).bind fun r2 =>
    (fX7_four n Sh M 98 108 101 100).bind fun r3 =>
    (fX7_laysWord n Sh M a0 r2 r3).bind fun r4 =>
    some r4
  else
    some M
noncomputable def fX7_laysPhrase (n : Nat) (Sh : Sp) (M : Mm) (a0 : Nat) (a1 : Int32) : Option Mm :=
  (fX7_laysName n Sh M a0 a1).bind fun r5 =>
  (fX7_of n Sh r5 a0 a1 3).bind fun r6 =>
  (fX7_laysRole n Sh r5 a0 r6).bind fun r7 =>
  (fX7_of n Sh r7 a0 a1 3).bind fun r8 =>
  if r8 = 5 then
    (fX7_laysText n Sh r7 a0 a1).bind fun r9 =>
    fX7_laysPhrase_30 n Sh a0 a1 r9
  else
    fX7_laysPhrase_30 n Sh a0 a1 r7
set_option maxRecDepth 100000 in
set_option maxHeartbeats 4000000 in
theorem kX7_laysPhrase {l : Launch} {G : Gt} {n : Nat} {Sh : Sp} {M : Mm} {a0 : Nat} {a1 : Int32} (hT : Sh a0 = some (.inl 7)) {r : Mm} (h : fX7_laysPhrase n Sh M a0 a1 = some r) : Ct l yX7_laysPhrase cX7_laysPhrase 2 none rmX7_laysPhrase G Sh M [.ref a0, .int a1] none r := by
  refine Ct.of (by decide) (Nat.le_of_ble_eq_true rfl) ?_
  intro p e s m args below meth c ls C hK hX hP hS hb hlk hr hl
  replace hl : lv_has ls 2 [(0, .ref a0), (1, .int a1)] := hl
  have J30 : ∀ (M : Mm) (H : Heap) (locs : List Loc) (ls : Array Slot), HM G Sh M H → SS G s s.heap.size H locs → lv_has ls 2 [(0, .ref a0), (1, .int a1)] → fX7_laysPhrase_30 n Sh a0 a1 M = some r → W p l e rmX7_laysPhrase s m args below meth c H locs 0 0 (MQ below (QG G Sh r none) args s rmX7_laysPhrase.cells rmX7_laysPhrase.slots (AA G)) (F0 m 30 ls []) := by
    intro M H locs ls hP hS hl h
    unfold fX7_laysPhrase_30 at h
    refine lv_aload_n C.1 C.2.1 dX7_laysPhrase_30 rfl (lv_at hl 0 rfl) ?_
    refine lv_iload_n C.1 C.2.1 dX7_laysPhrase_31 rfl (lv_at hl 1 rfl) ?_
    refine lv_bipush (v := 6) C.1 C.2.1 dX7_laysPhrase_32 (by decide) ?_
    obtain ⟨r1, hc, h⟩ := bS h
    refine r_V1 C hK hX hb hP hS hl.1 (kX7_of (hT) hc) hT cl_7 wd_1197 mo_X7_of wd_1199 wd_24 ⟨Nat.le_of_ble_eq_true rfl, Nat.le_of_ble_eq_true rfl⟩ ⟨Nat.le_of_ble_eq_true rfl, Nat.le_of_ble_eq_true rfl⟩ rfl (rest := []) rfl (Nat.le_of_ble_eq_true rfl) dX7_laysPhrase_34 (fun H locs hP hS => ?_)
    refine lv_iconst (v := 1) C.1 C.2.1 dX7_laysPhrase_37 (by decide) ?_
    refine b_ine (tgt := 67) C dX7_laysPhrase_38 (by decide) h (fun h => ?_) (fun h => ?_)
    · refine lv_aload_n C.1 C.2.1 dX7_laysPhrase_41 rfl (lv_at hl 0 rfl) ?_
      refine lv_bipush (v := 100) C.1 C.2.1 dX7_laysPhrase_42 (by decide) ?_
      refine lv_bipush (v := 105) C.1 C.2.1 dX7_laysPhrase_44 (by decide) ?_
      refine lv_bipush (v := 115) C.1 C.2.1 dX7_laysPhrase_46 (by decide) ?_
      refine lv_bipush (v := 97) C.1 C.2.1 dX7_laysPhrase_48 (by decide) ?_
      obtain ⟨r2, hc, h⟩ := bS h
      refine r_S1 C hK hX hb hP hS hl.1 (kX7_four hc) wd_1335 mo_X7_four wd_1336 ⟨Nat.le_of_ble_eq_true rfl, Nat.le_of_ble_eq_true rfl⟩ ⟨Nat.le_of_ble_eq_true rfl, Nat.le_of_ble_eq_true rfl⟩ rfl (rest := [.ref a0]) rfl (Nat.le_of_ble_eq_true rfl) dX7_laysPhrase_50 (fun H locs hP hS => ?_)
      refine lv_bipush (v := 98) C.1 C.2.1 dX7_laysPhrase_53 (by decide) ?_
      refine lv_bipush (v := 108) C.1 C.2.1 dX7_laysPhrase_55 (by decide) ?_
      refine lv_bipush (v := 101) C.1 C.2.1 dX7_laysPhrase_57 (by decide) ?_
      refine lv_bipush (v := 100) C.1 C.2.1 dX7_laysPhrase_59 (by decide) ?_
      obtain ⟨r3, hc, h⟩ := bS h
      refine r_S1 C hK hX hb hP hS hl.1 (kX7_four hc) wd_1335 mo_X7_four wd_1336 ⟨Nat.le_of_ble_eq_true rfl, Nat.le_of_ble_eq_true rfl⟩ ⟨Nat.le_of_ble_eq_true rfl, Nat.le_of_ble_eq_true rfl⟩ rfl (rest := [.int r2, .ref a0]) rfl (Nat.le_of_ble_eq_true rfl) dX7_laysPhrase_61 (fun H locs hP hS => ?_)
      obtain ⟨r4, hc, h⟩ := bS h
      refine r_V0 C hK hX hb hP hS hl.1 (kX7_laysWord (hT) hc) hT cl_7 wd_1338 mo_X7_laysWord wd_1340 wd_51 ⟨Nat.le_of_ble_eq_true rfl, Nat.le_of_ble_eq_true rfl⟩ ⟨Nat.le_of_ble_eq_true rfl, Nat.le_of_ble_eq_true rfl⟩ rfl (rest := []) rfl (Nat.le_of_ble_eq_true rfl) dX7_laysPhrase_64 (fun H locs hP hS => ?_)
      have e := Option.some.inj h
      exact q_v C hlk hP hS hr rfl e.symm dX7_laysPhrase_67
    · have e := Option.some.inj h
      exact q_v C hlk hP hS hr rfl e.symm dX7_laysPhrase_67
  unfold fX7_laysPhrase at h
  refine lv_aload_n C.1 C.2.1 dX7_laysPhrase_0 rfl (lv_at hl 0 rfl) ?_
  refine lv_iload_n C.1 C.2.1 dX7_laysPhrase_1 rfl (lv_at hl 1 rfl) ?_
  obtain ⟨r5, hc, h⟩ := bS h
  refine r_V0 C hK hX hb hP hS hl.1 (kX7_laysName (hT) hc) hT cl_7 wd_1307 mo_X7_laysName wd_1309 wd_44 ⟨Nat.le_of_ble_eq_true rfl, Nat.le_of_ble_eq_true rfl⟩ ⟨Nat.le_of_ble_eq_true rfl, Nat.le_of_ble_eq_true rfl⟩ rfl (rest := []) rfl (Nat.le_of_ble_eq_true rfl) dX7_laysPhrase_2 (fun H locs hP hS => ?_)
  refine lv_aload_n C.1 C.2.1 dX7_laysPhrase_5 rfl (lv_at hl 0 rfl) ?_
  refine lv_aload_n C.1 C.2.1 dX7_laysPhrase_6 rfl (lv_at hl 0 rfl) ?_
  refine lv_iload_n C.1 C.2.1 dX7_laysPhrase_7 rfl (lv_at hl 1 rfl) ?_
  refine lv_iconst (v := 3) C.1 C.2.1 dX7_laysPhrase_8 (by decide) ?_
  obtain ⟨r6, hc, h⟩ := bS h
  refine r_V1 C hK hX hb hP hS hl.1 (kX7_of (hT) hc) hT cl_7 wd_1197 mo_X7_of wd_1199 wd_24 ⟨Nat.le_of_ble_eq_true rfl, Nat.le_of_ble_eq_true rfl⟩ ⟨Nat.le_of_ble_eq_true rfl, Nat.le_of_ble_eq_true rfl⟩ rfl (rest := [.ref a0]) rfl (Nat.le_of_ble_eq_true rfl) dX7_laysPhrase_9 (fun H locs hP hS => ?_)
  obtain ⟨r7, hc, h⟩ := bS h
  refine r_V0 C hK hX hb hP hS hl.1 (kX7_laysRole (hT) hc) hT cl_7 wd_1331 mo_X7_laysRole wd_1333 wd_50 ⟨Nat.le_of_ble_eq_true rfl, Nat.le_of_ble_eq_true rfl⟩ ⟨Nat.le_of_ble_eq_true rfl, Nat.le_of_ble_eq_true rfl⟩ rfl (rest := []) rfl (Nat.le_of_ble_eq_true rfl) dX7_laysPhrase_12 (fun H locs hP hS => ?_)
  refine lv_aload_n C.1 C.2.1 dX7_laysPhrase_15 rfl (lv_at hl 0 rfl) ?_
  refine lv_iload_n C.1 C.2.1 dX7_laysPhrase_16 rfl (lv_at hl 1 rfl) ?_
  refine lv_iconst (v := 3) C.1 C.2.1 dX7_laysPhrase_17 (by decide) ?_
  obtain ⟨r8, hc, h⟩ := bS h
  refine r_V1 C hK hX hb hP hS hl.1 (kX7_of (hT) hc) hT cl_7 wd_1197 mo_X7_of wd_1199 wd_24 ⟨Nat.le_of_ble_eq_true rfl, Nat.le_of_ble_eq_true rfl⟩ ⟨Nat.le_of_ble_eq_true rfl, Nat.le_of_ble_eq_true rfl⟩ rfl (rest := []) rfl (Nat.le_of_ble_eq_true rfl) dX7_laysPhrase_18 (fun H locs hP hS => ?_)
  refine lv_iconst (v := 5) C.1 C.2.1 dX7_laysPhrase_21 (by decide) ?_
  refine b_ine (tgt := 30) C dX7_laysPhrase_22 (by decide) h (fun h => ?_) (fun h => ?_)
  · refine lv_aload_n C.1 C.2.1 dX7_laysPhrase_25 rfl (lv_at hl 0 rfl) ?_
    refine lv_iload_n C.1 C.2.1 dX7_laysPhrase_26 rfl (lv_at hl 1 rfl) ?_
    obtain ⟨r9, hc, h⟩ := bS h
    refine r_V0 C hK hX hb hP hS hl.1 (kX7_laysText (hT) hc) hT cl_7 wd_1295 mo_X7_laysText wd_1297 wd_41 ⟨Nat.le_of_ble_eq_true rfl, Nat.le_of_ble_eq_true rfl⟩ ⟨Nat.le_of_ble_eq_true rfl, Nat.le_of_ble_eq_true rfl⟩ rfl (rest := []) rfl (Nat.le_of_ble_eq_true rfl) dX7_laysPhrase_27 (fun H locs hP hS => ?_)
    exact J30 (r9) _ _ _ hP hS (lv_sub hl [0, 1] rfl) h
  · exact J30 (r7) _ _ _ hP hS (lv_sub hl [0, 1] rfl) h
theorem dX7_lay_0 : decode cX7_lay 0 = .ok (.aload_n 0, 1) := by decide +kernel
theorem dX7_lay_1 : decode cX7_lay 1 = .ok (.iconst 0, 1) := by decide +kernel
theorem dX7_lay_2 : decode cX7_lay 2 = .ok (.putfield 58, 3) := by decide +kernel
theorem dX7_lay_5 : decode cX7_lay 5 = .ok (.iload_n 2, 1) := by decide +kernel
theorem dX7_lay_6 : decode cX7_lay 6 = .ok (.tableswitch 74 0 4 #[34, 42, 50, 58, 66], 34) := by decide +kernel
theorem dX7_lay_40 : decode cX7_lay 40 = .ok (.aload_n 0, 1) := by decide +kernel
theorem dX7_lay_41 : decode cX7_lay 41 = .ok (.iload_n 1, 1) := by decide +kernel
theorem dX7_lay_42 : decode cX7_lay 42 = .ok (.invokevirtual 68, 3) := by decide +kernel
theorem dX7_lay_45 : decode cX7_lay 45 = .ok (.goto 40, 3) := by decide +kernel
theorem dX7_lay_48 : decode cX7_lay 48 = .ok (.aload_n 0, 1) := by decide +kernel
theorem dX7_lay_49 : decode cX7_lay 49 = .ok (.iload_n 1, 1) := by decide +kernel
theorem dX7_lay_50 : decode cX7_lay 50 = .ok (.invokevirtual 72, 3) := by decide +kernel
theorem dX7_lay_53 : decode cX7_lay 53 = .ok (.goto 32, 3) := by decide +kernel
theorem dX7_lay_56 : decode cX7_lay 56 = .ok (.aload_n 0, 1) := by decide +kernel
theorem dX7_lay_57 : decode cX7_lay 57 = .ok (.iload_n 1, 1) := by decide +kernel
theorem dX7_lay_58 : decode cX7_lay 58 = .ok (.invokevirtual 88, 3) := by decide +kernel
theorem dX7_lay_61 : decode cX7_lay 61 = .ok (.goto 24, 3) := by decide +kernel
theorem dX7_lay_64 : decode cX7_lay 64 = .ok (.aload_n 0, 1) := by decide +kernel
theorem dX7_lay_65 : decode cX7_lay 65 = .ok (.iload_n 1, 1) := by decide +kernel
theorem dX7_lay_66 : decode cX7_lay 66 = .ok (.invokevirtual 94, 3) := by decide +kernel
theorem dX7_lay_69 : decode cX7_lay 69 = .ok (.goto 16, 3) := by decide +kernel
theorem dX7_lay_72 : decode cX7_lay 72 = .ok (.aload_n 0, 1) := by decide +kernel
theorem dX7_lay_73 : decode cX7_lay 73 = .ok (.iload_n 1, 1) := by decide +kernel
theorem dX7_lay_74 : decode cX7_lay 74 = .ok (.invokevirtual 78, 3) := by decide +kernel
theorem dX7_lay_77 : decode cX7_lay 77 = .ok (.goto 8, 3) := by decide +kernel
theorem dX7_lay_80 : decode cX7_lay 80 = .ok (.aload_n 0, 1) := by decide +kernel
theorem dX7_lay_81 : decode cX7_lay 81 = .ok (.iload_n 1, 1) := by decide +kernel
theorem dX7_lay_82 : decode cX7_lay 82 = .ok (.invokevirtual 97, 3) := by decide +kernel
theorem dX7_lay_85 : decode cX7_lay 85 = .ok (.return_, 1) := by decide +kernel
abbrev rmX7_lay : Room := { frames := 8, cells := 0, slots := 0, locals := 198 }
noncomputable def fX7_lay (n : Nat) (Sh : Sp) (M : Mm) (a0 : Nat) (a1 : Int32) (a2 : Int32) : Option Mm :=
  qI M a0 7 0 fun M1 =>
  if a2 = 0 then
    (fX7_laysText n Sh M1 a0 a1).bind fun r2 =>
    some r2
  else if a2 = 1 then
    (fX7_laysLabel n Sh M1 a0 a1).bind fun r3 =>
    some r3
  else if a2 = 2 then
    (fX7_laysName n Sh M1 a0 a1).bind fun r4 =>
    some r4
  else if a2 = 3 then
    (fX7_laysPhrase n Sh M1 a0 a1).bind fun r5 =>
    some r5
  else if a2 = 4 then
    (fX7_laysContent n Sh M1 a0 a1).bind fun r6 =>
    some r6
  else
    (fX7_laysPart n Sh M1 a0 a1).bind fun r7 =>
    some r7
set_option maxRecDepth 100000 in
set_option maxHeartbeats 4000000 in
theorem kX7_lay {l : Launch} {G : Gt} {n : Nat} {Sh : Sp} {M : Mm} {a0 : Nat} {a1 : Int32} {a2 : Int32} (hT : Sh a0 = some (.inl 7)) {r : Mm} (h : fX7_lay n Sh M a0 a1 a2 = some r) : Ct l yX7_lay cX7_lay 3 none rmX7_lay G Sh M [.ref a0, .int a1, .int a2] none r := by
  refine Ct.of (by decide) (Nat.le_of_ble_eq_true rfl) ?_
  intro p e s m args below meth c ls C hK hX hP hS hb hlk hr hl
  replace hl : lv_has ls 3 [(0, .ref a0), (1, .int a1), (2, .int a2)] := hl
  unfold fX7_lay at h
  refine lv_aload_n C.1 C.2.1 dX7_lay_0 rfl (lv_at hl 0 rfl) ?_
  refine lv_iconst (v := 0) C.1 C.2.1 dX7_lay_1 (by decide) ?_
  refine r_qI C hK hP hS hT cl_7 (k := 7) (by decide) wd_1151 rfl rfl (tyX7_ok 7 (by decide)) dX7_lay_2 h (fun M1 H locs h hP hS => ?_)
  refine lv_iload_n C.1 C.2.1 dX7_lay_5 rfl (lv_at hl 2 rfl) ?_
  by_cases q0 : a2 = 0
  · rw [if_pos q0] at h
    refine lv_tableIn (off := 34) (tgt := 40) C.1 C.2.1 dX7_lay_6 (by rw [q0]; decide) (by rw [q0]; decide) (by rw [q0]; decide) (by decide) ?_
    refine lv_aload_n C.1 C.2.1 dX7_lay_40 rfl (lv_at hl 0 rfl) ?_
    refine lv_iload_n C.1 C.2.1 dX7_lay_41 rfl (lv_at hl 1 rfl) ?_
    obtain ⟨r2, hc, h⟩ := bS h
    refine r_V0 C hK hX hb hP hS hl.1 (kX7_laysText (hT) hc) hT cl_7 wd_1295 mo_X7_laysText wd_1297 wd_41 ⟨Nat.le_of_ble_eq_true rfl, Nat.le_of_ble_eq_true rfl⟩ ⟨Nat.le_of_ble_eq_true rfl, Nat.le_of_ble_eq_true rfl⟩ rfl (rest := []) rfl (Nat.le_of_ble_eq_true rfl) dX7_lay_42 (fun H locs hP hS => ?_)
    refine lv_goto (tgt := 85) C.1 C.2.1 dX7_lay_45 (by decide) ?_
    have e := Option.some.inj h
    exact q_v C hlk hP hS hr rfl e.symm dX7_lay_85
  rw [if_neg q0] at h
  by_cases q1 : a2 = 1
  · rw [if_pos q1] at h
    refine lv_tableIn (off := 42) (tgt := 48) C.1 C.2.1 dX7_lay_6 (by rw [q1]; decide) (by rw [q1]; decide) (by rw [q1]; decide) (by decide) ?_
    refine lv_aload_n C.1 C.2.1 dX7_lay_48 rfl (lv_at hl 0 rfl) ?_
    refine lv_iload_n C.1 C.2.1 dX7_lay_49 rfl (lv_at hl 1 rfl) ?_
    obtain ⟨r3, hc, h⟩ := bS h
    refine r_V0 C hK hX hb hP hS hl.1 (kX7_laysLabel (hT) hc) hT cl_7 wd_1303 mo_X7_laysLabel wd_1305 wd_43 ⟨Nat.le_of_ble_eq_true rfl, Nat.le_of_ble_eq_true rfl⟩ ⟨Nat.le_of_ble_eq_true rfl, Nat.le_of_ble_eq_true rfl⟩ rfl (rest := []) rfl (Nat.le_of_ble_eq_true rfl) dX7_lay_50 (fun H locs hP hS => ?_)
    refine lv_goto (tgt := 85) C.1 C.2.1 dX7_lay_53 (by decide) ?_
    have e := Option.some.inj h
    exact q_v C hlk hP hS hr rfl e.symm dX7_lay_85
  rw [if_neg q1] at h
  by_cases q2 : a2 = 2
  · rw [if_pos q2] at h
    refine lv_tableIn (off := 50) (tgt := 56) C.1 C.2.1 dX7_lay_6 (by rw [q2]; decide) (by rw [q2]; decide) (by rw [q2]; decide) (by decide) ?_
    refine lv_aload_n C.1 C.2.1 dX7_lay_56 rfl (lv_at hl 0 rfl) ?_
    refine lv_iload_n C.1 C.2.1 dX7_lay_57 rfl (lv_at hl 1 rfl) ?_
    obtain ⟨r4, hc, h⟩ := bS h
    refine r_V0 C hK hX hb hP hS hl.1 (kX7_laysName (hT) hc) hT cl_7 wd_1307 mo_X7_laysName wd_1309 wd_44 ⟨Nat.le_of_ble_eq_true rfl, Nat.le_of_ble_eq_true rfl⟩ ⟨Nat.le_of_ble_eq_true rfl, Nat.le_of_ble_eq_true rfl⟩ rfl (rest := []) rfl (Nat.le_of_ble_eq_true rfl) dX7_lay_58 (fun H locs hP hS => ?_)
    refine lv_goto (tgt := 85) C.1 C.2.1 dX7_lay_61 (by decide) ?_
    have e := Option.some.inj h
    exact q_v C hlk hP hS hr rfl e.symm dX7_lay_85
  rw [if_neg q2] at h
  by_cases q3 : a2 = 3
  · rw [if_pos q3] at h
    refine lv_tableIn (off := 58) (tgt := 64) C.1 C.2.1 dX7_lay_6 (by rw [q3]; decide) (by rw [q3]; decide) (by rw [q3]; decide) (by decide) ?_
    refine lv_aload_n C.1 C.2.1 dX7_lay_64 rfl (lv_at hl 0 rfl) ?_
    refine lv_iload_n C.1 C.2.1 dX7_lay_65 rfl (lv_at hl 1 rfl) ?_
    obtain ⟨r5, hc, h⟩ := bS h
    refine r_V0 C hK hX hb hP hS hl.1 (kX7_laysPhrase (hT) hc) hT cl_7 wd_1327 mo_X7_laysPhrase wd_1329 wd_49 ⟨Nat.le_of_ble_eq_true rfl, Nat.le_of_ble_eq_true rfl⟩ ⟨Nat.le_of_ble_eq_true rfl, Nat.le_of_ble_eq_true rfl⟩ rfl (rest := []) rfl (Nat.le_of_ble_eq_true rfl) dX7_lay_66 (fun H locs hP hS => ?_)
    refine lv_goto (tgt := 85) C.1 C.2.1 dX7_lay_69 (by decide) ?_
    have e := Option.some.inj h
    exact q_v C hlk hP hS hr rfl e.symm dX7_lay_85
  rw [if_neg q3] at h
  by_cases q4 : a2 = 4
  · rw [if_pos q4] at h
    refine lv_tableIn (off := 66) (tgt := 72) C.1 C.2.1 dX7_lay_6 (by rw [q4]; decide) (by rw [q4]; decide) (by rw [q4]; decide) (by decide) ?_
    refine lv_aload_n C.1 C.2.1 dX7_lay_72 rfl (lv_at hl 0 rfl) ?_
    refine lv_iload_n C.1 C.2.1 dX7_lay_73 rfl (lv_at hl 1 rfl) ?_
    obtain ⟨r6, hc, h⟩ := bS h
    refine r_V0 C hK hX hb hP hS hl.1 (kX7_laysContent (hT) hc) hT cl_7 wd_1311 mo_X7_laysContent wd_1313 wd_45 ⟨Nat.le_of_ble_eq_true rfl, Nat.le_of_ble_eq_true rfl⟩ ⟨Nat.le_of_ble_eq_true rfl, Nat.le_of_ble_eq_true rfl⟩ rfl (rest := []) rfl (Nat.le_of_ble_eq_true rfl) dX7_lay_74 (fun H locs hP hS => ?_)
    refine lv_goto (tgt := 85) C.1 C.2.1 dX7_lay_77 (by decide) ?_
    have e := Option.some.inj h
    exact q_v C hlk hP hS hr rfl e.symm dX7_lay_85
  rw [if_neg q4] at h
  refine lv_tableOut (tgt := 80) C.1 C.2.1 dX7_lay_6 (sw_out (x := a2) (lo := 0) (n := 5) (by decide) (fun j hj => match j, hj with | 0, _ => fun hx => q0 (hx.trans (by decide)) | 1, _ => fun hx => q1 (hx.trans (by decide)) | 2, _ => fun hx => q2 (hx.trans (by decide)) | 3, _ => fun hx => q3 (hx.trans (by decide)) | 4, _ => fun hx => q4 (hx.trans (by decide)) | (k + 5), hj => absurd hj (by omega))) (by decide) ?_
  refine lv_aload_n C.1 C.2.1 dX7_lay_80 rfl (lv_at hl 0 rfl) ?_
  refine lv_iload_n C.1 C.2.1 dX7_lay_81 rfl (lv_at hl 1 rfl) ?_
  obtain ⟨r7, hc, h⟩ := bS h
  refine r_V0 C hK hX hb hP hS hl.1 (kX7_laysPart (hT) hc) hT cl_7 wd_1342 mo_X7_laysPart wd_1344 wd_52 ⟨Nat.le_of_ble_eq_true rfl, Nat.le_of_ble_eq_true rfl⟩ ⟨Nat.le_of_ble_eq_true rfl, Nat.le_of_ble_eq_true rfl⟩ rfl (rest := []) rfl (Nat.le_of_ble_eq_true rfl) dX7_lay_82 (fun H locs hP hS => ?_)
  have e := Option.some.inj h
  exact q_v C hlk hP hS hr rfl e.symm dX7_lay_85
theorem dX7_startOf_0 : decode cX7_startOf 0 = .ok (.sipush 721, 3) := by decide +kernel
theorem dX7_startOf_3 : decode cX7_startOf 3 = .ok (.sipush 244, 3) := by decide +kernel
theorem dX7_startOf_6 : decode cX7_startOf 6 = .ok (.iload_n 0, 1) := by decide +kernel
theorem dX7_startOf_7 : decode cX7_startOf 7 = .ok (.imul, 1) := by decide +kernel
theorem dX7_startOf_8 : decode cX7_startOf 8 = .ok (.iadd, 1) := by decide +kernel
theorem dX7_startOf_9 : decode cX7_startOf 9 = .ok (.ireturn, 1) := by decide +kernel
abbrev rmX7_startOf : Room := { frames := 1, cells := 0, slots := 0, locals := 40 }
noncomputable def fX7_startOf (n : Nat) (Sh : Sp) (M : Mm) (a0 : Int32) : Option Int32 :=
  some (721 + (244 * a0))
set_option maxRecDepth 100000 in
set_option maxHeartbeats 4000000 in
theorem kX7_startOf {l : Launch} {G : Gt} {n : Nat} {Sh : Sp} {M : Mm} {a0 : Int32} {r : Int32} (h : fX7_startOf n Sh M a0 = some r) : Ct l yX7_startOf cX7_startOf 1 (some .int) rmX7_startOf G Sh M [.int a0] (some (.int r)) M := by
  refine Ct.of (by decide) (Nat.le_of_ble_eq_true rfl) ?_
  intro p e s m args below meth c ls C hK hX hP hS hb hlk hr hl
  replace hl : lv_has ls 1 [(0, .int a0)] := hl
  unfold fX7_startOf at h
  refine lv_sipush (v := 721) C.1 C.2.1 dX7_startOf_0 (by decide) ?_
  refine lv_sipush (v := 244) C.1 C.2.1 dX7_startOf_3 (by decide) ?_
  refine lv_iload_n C.1 C.2.1 dX7_startOf_6 rfl (lv_at hl 0 rfl) ?_
  refine lv_imul C.1 C.2.1 dX7_startOf_7 ?_
  refine lv_iadd C.1 C.2.1 dX7_startOf_8 ?_
  have e := Option.some.inj h
  exact q_i C hlk hP hS hr (by rw [← e]) rfl dX7_startOf_9
theorem dX7_drop_0 : decode cX7_drop 0 = .ok (.iload_n 1, 1) := by decide +kernel
theorem dX7_drop_1 : decode cX7_drop 1 = .ok (.invokestatic 100, 3) := by decide +kernel
theorem dX7_drop_4 : decode cX7_drop 4 = .ok (.istore_n 2, 1) := by decide +kernel
theorem dX7_drop_5 : decode cX7_drop 5 = .ok (.iload_n 2, 1) := by decide +kernel
theorem dX7_drop_6 : decode cX7_drop 6 = .ok (.aload_n 0, 1) := by decide +kernel
theorem dX7_drop_7 : decode cX7_drop 7 = .ok (.getfield 7, 3) := by decide +kernel
theorem dX7_drop_10 : decode cX7_drop 10 = .ok (.sipush 720, 3) := by decide +kernel
theorem dX7_drop_13 : decode cX7_drop 13 = .ok (.iaload, 1) := by decide +kernel
theorem dX7_drop_14 : decode cX7_drop 14 = .ok (.iconst 1, 1) := by decide +kernel
theorem dX7_drop_15 : decode cX7_drop 15 = .ok (.isub, 1) := by decide +kernel
theorem dX7_drop_16 : decode cX7_drop 16 = .ok (.invokestatic 100, 3) := by decide +kernel
theorem dX7_drop_19 : decode cX7_drop 19 = .ok (.if_icmp .ge 25, 3) := by decide +kernel
theorem dX7_drop_22 : decode cX7_drop 22 = .ok (.aload_n 0, 1) := by decide +kernel
theorem dX7_drop_23 : decode cX7_drop 23 = .ok (.getfield 7, 3) := by decide +kernel
theorem dX7_drop_26 : decode cX7_drop 26 = .ok (.iload_n 2, 1) := by decide +kernel
theorem dX7_drop_27 : decode cX7_drop 27 = .ok (.aload_n 0, 1) := by decide +kernel
theorem dX7_drop_28 : decode cX7_drop 28 = .ok (.getfield 7, 3) := by decide +kernel
theorem dX7_drop_31 : decode cX7_drop 31 = .ok (.iload_n 2, 1) := by decide +kernel
theorem dX7_drop_32 : decode cX7_drop 32 = .ok (.sipush 244, 3) := by decide +kernel
theorem dX7_drop_35 : decode cX7_drop 35 = .ok (.iadd, 1) := by decide +kernel
theorem dX7_drop_36 : decode cX7_drop 36 = .ok (.iaload, 1) := by decide +kernel
theorem dX7_drop_37 : decode cX7_drop 37 = .ok (.iastore, 1) := by decide +kernel
theorem dX7_drop_38 : decode cX7_drop 38 = .ok (.iinc 2 1, 3) := by decide +kernel
theorem dX7_drop_41 : decode cX7_drop 41 = .ok (.goto (-36), 3) := by decide +kernel
theorem dX7_drop_44 : decode cX7_drop 44 = .ok (.aload_n 0, 1) := by decide +kernel
theorem dX7_drop_45 : decode cX7_drop 45 = .ok (.getfield 7, 3) := by decide +kernel
theorem dX7_drop_48 : decode cX7_drop 48 = .ok (.sipush 720, 3) := by decide +kernel
theorem dX7_drop_51 : decode cX7_drop 51 = .ok (.dup2, 1) := by decide +kernel
theorem dX7_drop_52 : decode cX7_drop 52 = .ok (.iaload, 1) := by decide +kernel
theorem dX7_drop_53 : decode cX7_drop 53 = .ok (.iconst 1, 1) := by decide +kernel
theorem dX7_drop_54 : decode cX7_drop 54 = .ok (.isub, 1) := by decide +kernel
theorem dX7_drop_55 : decode cX7_drop 55 = .ok (.iastore, 1) := by decide +kernel
theorem dX7_drop_56 : decode cX7_drop 56 = .ok (.return_, 1) := by decide +kernel
abbrev rmX7_drop : Room := { frames := 2, cells := 0, slots := 0, locals := 60 }
noncomputable def fX7_drop_44 (n : Nat) (Sh : Sp) (a0 : Nat) (a1 : Int32) (M : Mm) : Option Mm :=
  tF M a0 0 fun b1 =>
  aI Sh M b1 0 720 fun x2 =>
  sI Sh M b1 720 (x2 - 1) fun M3 =>
  some M3
noncomputable def fX7_drop_5b (n : Nat) (Sh : Sp) (a0 : Nat) (a1 : Int32) (M : Mm) (v2 : Int32) : Option ((Int32 × Mm) ⊕ Mm) :=
  tF M a0 0 fun b4 =>
  aI Sh M b4 0 720 fun x5 =>
  (fX7_startOf n Sh M (x5 - 1)).bind fun r6 =>
  if v2 < r6 then
    tF M a0 0 fun b7 =>
    tF M a0 0 fun b8 =>
    aI Sh M b8 0 (v2 + 244) fun x9 =>
    sI Sh M b7 v2 x9 fun M10 =>
    some (Sum.inl ((v2 + 1), M10))
  else
    (fX7_drop_44 n Sh a0 a1 M).map Sum.inr
noncomputable def fX7_drop_5 (n : Nat) (Sh : Sp) (a0 : Nat) (a1 : Int32) (M : Mm) (v2 : Int32) : Option Mm :=
  iter n (fun s => fX7_drop_5b n Sh a0 a1 s.2 s.1) (v2, M)
noncomputable def fX7_drop (n : Nat) (Sh : Sp) (M : Mm) (a0 : Nat) (a1 : Int32) : Option Mm :=
  (fX7_startOf n Sh M a1).bind fun r11 =>
  fX7_drop_5 n Sh a0 a1 M r11
set_option maxRecDepth 100000 in
set_option maxHeartbeats 4000000 in
theorem kX7_drop {l : Launch} {G : Gt} {n : Nat} {Sh : Sp} {M : Mm} {a0 : Nat} {a1 : Int32} (hT : Sh a0 = some (.inl 7)) {r : Mm} (h : fX7_drop n Sh M a0 a1 = some r) : Ct l yX7_drop cX7_drop 3 none rmX7_drop G Sh M [.ref a0, .int a1] none r := by
  refine Ct.of (by decide) (Nat.le_of_ble_eq_true rfl) ?_
  intro p e s m args below meth c ls C hK hX hP hS hb hlk hr hl
  replace hl : lv_has ls 3 [(0, .ref a0), (1, .int a1)] := hl
  have J44 : ∀ (M : Mm) (H : Heap) (locs : List Loc) (ls : Array Slot), HM G Sh M H → SS G s s.heap.size H locs → lv_has ls 3 [(0, .ref a0), (1, .int a1)] → fX7_drop_44 n Sh a0 a1 M = some r → W p l e rmX7_drop s m args below meth c H locs 0 0 (MQ below (QG G Sh r none) args s rmX7_drop.cells rmX7_drop.slots (AA G)) (F0 m 44 ls []) := by
    intro M H locs ls hP hS hl h
    unfold fX7_drop_44 at h
    refine lv_aload_n C.1 C.2.1 dX7_drop_44 rfl (lv_at hl 0 rfl) ?_
    refine r_tF C hK hP hT cl_7 (k := 0) (by decide) wd_1144 rfl dX7_drop_45 h (fun b1 h => ?_)
    refine lv_sipush (v := 720) C.1 C.2.1 dX7_drop_48 (by decide) ?_
    refine lv_dup2_11 C.1 C.2.1 dX7_drop_51 rfl rfl ?_
    refine r_aI C hK hP dX7_drop_52 h (fun x2 h => ?_)
    refine lv_iconst (v := 1) C.1 C.2.1 dX7_drop_53 (by decide) ?_
    refine lv_isub C.1 C.2.1 dX7_drop_54 ?_
    refine r_sI C hK hP hS dX7_drop_55 h (fun M3 H locs h hP hS => ?_)
    have e := Option.some.inj h
    exact q_v C hlk hP hS hr rfl e.symm dX7_drop_56
  have J5 : ∀ (k : Nat) (v2 : Int32) (M : Mm) (H : Heap) (locs : List Loc) (ls : Array Slot), HM G Sh M H → SS G s s.heap.size H locs → lv_has ls 3 [(0, .ref a0), (1, .int a1), (2, .int v2)] → iter k (fun s => fX7_drop_5b n Sh a0 a1 s.2 s.1) (v2, M) = some r → W p l e rmX7_drop s m args below meth c H locs 0 0 (MQ below (QG G Sh r none) args s rmX7_drop.cells rmX7_drop.slots (AA G)) (F0 m 5 ls []) := by
    intro k
    induction k with
    | zero => intro v2 M H locs ls hP hS hl h; exact (iter_0 h).elim
    | succ k ih1 =>
      intro v2 M H locs ls hP hS hl h
      obtain ⟨z1, h, hz1⟩ := iter_some h
      replace h : fX7_drop_5b n Sh a0 a1 M v2 = some z1 := h
      unfold fX7_drop_5b at h
      refine lv_iload_n C.1 C.2.1 dX7_drop_5 rfl (lv_at hl 2 rfl) ?_
      refine lv_aload_n C.1 C.2.1 dX7_drop_6 rfl (lv_at hl 0 rfl) ?_
      refine r_tF C hK hP hT cl_7 (k := 0) (by decide) wd_1144 rfl dX7_drop_7 h (fun b4 h => ?_)
      refine lv_sipush (v := 720) C.1 C.2.1 dX7_drop_10 (by decide) ?_
      refine r_aI C hK hP dX7_drop_13 h (fun x5 h => ?_)
      refine lv_iconst (v := 1) C.1 C.2.1 dX7_drop_14 (by decide) ?_
      refine lv_isub C.1 C.2.1 dX7_drop_15 ?_
      obtain ⟨r6, hc, h⟩ := bS h
      refine r_S1 C hK hX hb hP hS hl.1 (kX7_startOf hc) wd_1237 mo_X7_startOf wd_1238 ⟨Nat.le_of_ble_eq_true rfl, Nat.le_of_ble_eq_true rfl⟩ ⟨Nat.le_of_ble_eq_true rfl, Nat.le_of_ble_eq_true rfl⟩ rfl (rest := [.int v2]) rfl (Nat.le_of_ble_eq_true rfl) dX7_drop_16 (fun H locs hP hS => ?_)
      refine b_ige (tgt := 44) C dX7_drop_19 (by decide) h (fun h => ?_) (fun h => ?_)
      · refine lv_aload_n C.1 C.2.1 dX7_drop_22 rfl (lv_at hl 0 rfl) ?_
        refine r_tF C hK hP hT cl_7 (k := 0) (by decide) wd_1144 rfl dX7_drop_23 h (fun b7 h => ?_)
        refine lv_iload_n C.1 C.2.1 dX7_drop_26 rfl (lv_at hl 2 rfl) ?_
        refine lv_aload_n C.1 C.2.1 dX7_drop_27 rfl (lv_at hl 0 rfl) ?_
        refine r_tF C hK hP hT cl_7 (k := 0) (by decide) wd_1144 rfl dX7_drop_28 h (fun b8 h => ?_)
        refine lv_iload_n C.1 C.2.1 dX7_drop_31 rfl (lv_at hl 2 rfl) ?_
        refine lv_sipush (v := 244) C.1 C.2.1 dX7_drop_32 (by decide) ?_
        refine lv_iadd C.1 C.2.1 dX7_drop_35 ?_
        refine r_aI C hK hP dX7_drop_36 h (fun x9 h => ?_)
        refine r_sI C hK hP hS dX7_drop_37 h (fun M10 H locs h hP hS => ?_)
        refine lv_iinc (v := (v2 + 1)) (lv' := [(2, .int (v2 + 1)), (0, .ref a0), (1, .int a1)]) C.1 C.2.1 dX7_drop_38 hl (k := 2) rfl rfl (by decide) rfl (fun ls hl => ?_)
        refine lv_goto (tgt := 5) C.1 C.2.1 dX7_drop_41 (by decide) ?_
        have e := Option.some.inj h
        rw [← e] at hz1
        exact ih1 ((v2 + 1)) M10 _ _ _ hP hS (lv_sub hl [1, 2, 0] rfl) (itK_inl hz1)
      · obtain ⟨w1, h, e⟩ := mS h
        rw [← e] at hz1
        replace e := itK_inr hz1
        rw [e] at h
        exact J44 (M) _ _ _ hP hS (lv_sub hl [0, 1] rfl) h
  unfold fX7_drop at h
  refine lv_iload_n C.1 C.2.1 dX7_drop_0 rfl (lv_at hl 1 rfl) ?_
  obtain ⟨r11, hc, h⟩ := bS h
  refine r_S1 C hK hX hb hP hS hl.1 (kX7_startOf hc) wd_1237 mo_X7_startOf wd_1238 ⟨Nat.le_of_ble_eq_true rfl, Nat.le_of_ble_eq_true rfl⟩ ⟨Nat.le_of_ble_eq_true rfl, Nat.le_of_ble_eq_true rfl⟩ rfl (rest := []) rfl (Nat.le_of_ble_eq_true rfl) dX7_drop_1 (fun H locs hP hS => ?_)
  refine lv_istore_n (lv' := [(2, .int r11), (0, .ref a0), (1, .int a1)]) C.1 C.2.1 dX7_drop_4 rfl hl (by decide) rfl (fun ls hl => ?_)
  exact J5  n (r11) M _ _ _ hP hS (lv_sub hl [1, 2, 0] rfl) h
