theorem dX6_info_0 : decode cX6_info 0 = .ok (.aload_n 0, 1) := by decide +kernel
theorem dX6_info_1 : decode cX6_info 1 = .ok (.iload_n 1, 1) := by decide +kernel
theorem dX6_info_2 : decode cX6_info 2 = .ok (.invokevirtual 62, 3) := by decide +kernel
theorem dX6_info_5 : decode cX6_info 5 = .ok (.iload_n 2, 1) := by decide +kernel
theorem dX6_info_6 : decode cX6_info 6 = .ok (.bipush 15, 2) := by decide +kernel
theorem dX6_info_8 : decode cX6_info 8 = .ok (.invokestatic 128, 3) := by decide +kernel
theorem dX6_info_11 : decode cX6_info 11 = .ok (.aload_n 0, 1) := by decide +kernel
theorem dX6_info_12 : decode cX6_info 12 = .ok (.getfield 10, 3) := by decide +kernel
theorem dX6_info_15 : decode cX6_info 15 = .ok (.getfield 27, 3) := by decide +kernel
theorem dX6_info_18 : decode cX6_info 18 = .ok (.iload_n 1, 1) := by decide +kernel
theorem dX6_info_19 : decode cX6_info 19 = .ok (.iload_n 2, 1) := by decide +kernel
theorem dX6_info_20 : decode cX6_info 20 = .ok (.invokevirtual 131, 3) := by decide +kernel
theorem dX6_info_23 : decode cX6_info 23 = .ok (.ireturn, 1) := by decide +kernel
abbrev rmX6_info : Room := { frames := 7, cells := 2, slots := 12, locals := 128 }
noncomputable def fX6_info (n : Nat) (Sh : Sp) (M : Mm) (a0 : Nat) (a1 : Int32) (a2 : Int32) : Option (String ⊕ Int32) :=
  xb (fX6_requireNode n Sh M a0 a1) (fun E => some (Sum.inl E)) <|
  xb (fX6_requireKind n Sh M a2 15) (fun E => some (Sum.inl E)) <|
  tF M a0 0 fun b5 =>
  gF Sh M b5 3 0 fun b6 =>
  chk (Sh b6 = some (.inl 4)) <|
  (fX4_about n Sh M b6 a1 a2).bind fun r7 =>
  some (Sum.inr r7)
set_option maxRecDepth 100000 in
set_option maxHeartbeats 4000000 in
theorem kX6_info {l : Launch} {G : Gt} {n : Nat} {Sh : Sp} {M : Mm} {a0 : Nat} {a1 : Int32} {a2 : Int32} (hT : Sh a0 = some (.inl 6)) (hfl : l.stackTraces = false) {r : (String ⊕ Int32)} (h : fX6_info n Sh M a0 a1 a2 = some r) : CtX l yX6_info cX6_info 3 (some .int) rmX6_info G Sh M [.ref a0, .int a1, .int a2] (rsI r) M := by
  refine CtX.of (by decide) (Nat.le_of_ble_eq_true rfl) ?_
  intro p e s m args below meth c ls C hK hX hP hS hb hlk hr hno hl
  replace hl : lv_has ls 3 [(0, .ref a0), (1, .int a1), (2, .int a2)] := hl
  unfold fX6_info at h
  refine lv_aload_n C.1 C.2.1 dX6_info_0 rfl (lv_at hl 0 rfl) ?_
  refine lv_iload_n C.1 C.2.1 dX6_info_1 rfl (lv_at hl 1 rfl) ?_
  obtain ⟨z2, hc, hE, h⟩ := xb_some h
  refine r_VX0 C hno hlk hK hX hb hP hS hl.1 (kX6_requireNode hT hfl hc) hT cl_6 wd_671 mo_X6_requireNode wd_673 wd_12 ⟨Nat.le_of_ble_eq_true rfl, Nat.le_of_ble_eq_true rfl⟩ ⟨Nat.le_of_ble_eq_true rfl, Nat.le_of_ble_eq_true rfl⟩ rfl (rest := []) rfl (Nat.le_of_ble_eq_true rfl) dX6_info_2 (k1 := 1) (k2 := 6) ⟨Nat.le_of_ble_eq_true rfl, Nat.le_of_ble_eq_true rfl⟩ ⟨Nat.le_of_ble_eq_true rfl, Nat.le_of_ble_eq_true rfl⟩ (fun E q => by have e := Option.some.inj (hE E q); rw [← e]; exact ⟨rfl, rfl⟩) (fun H locs hz hP hS => ?_)
  replace h := h hz
  refine lv_iload_n C.1 C.2.1 dX6_info_5 rfl (lv_at hl 2 rfl) ?_
  refine lv_bipush (v := 15) C.1 C.2.1 dX6_info_6 (by decide) ?_
  obtain ⟨z4, hc, hE, h⟩ := xb_some h
  refine r_SX0 C hno hlk hK hX hb hP hS hl.1 (kX6_requireKind hfl hc) wd_839 mo_X6_requireKind wd_840 ⟨Nat.le_of_ble_eq_true rfl, Nat.le_of_ble_eq_true rfl⟩ ⟨Nat.le_of_ble_eq_true rfl, Nat.le_of_ble_eq_true rfl⟩ rfl (rest := []) rfl (Nat.le_of_ble_eq_true rfl) dX6_info_8 (k1 := 2) (k2 := 12) ⟨Nat.le_of_ble_eq_true rfl, Nat.le_of_ble_eq_true rfl⟩ ⟨Nat.le_of_ble_eq_true rfl, Nat.le_of_ble_eq_true rfl⟩ (fun E q => by have e := Option.some.inj (hE E q); rw [← e]; exact ⟨rfl, rfl⟩) (fun H locs hz hP hS => ?_)
  replace h := h hz
  refine lv_aload_n C.1 C.2.1 dX6_info_11 rfl (lv_at hl 0 rfl) ?_
  refine r_tF C hK hP hT cl_6 (k := 0) (by decide) wd_264 rfl dX6_info_12 h (fun b5 h => ?_)
  refine r_gFN C hK hP cl_3 (k := 0) (by decide) (hX.nw wd_209) rfl dX6_info_15 h (fun b6 h => ?_)
  refine lv_iload_n C.1 C.2.1 dX6_info_18 rfl (lv_at hl 1 rfl) ?_
  refine lv_iload_n C.1 C.2.1 dX6_info_19 rfl (lv_at hl 2 rfl) ?_
  obtain ⟨hs, h⟩ := chk_some h
  obtain ⟨r7, hc, h⟩ := bS h
  refine r_V1 C hK hX hb hP hS hl.1 (kX4_about (hs) hc) hs cl_4 wd_632 mo_X4_about wd_633 wd_634 ⟨Nat.le_of_ble_eq_true rfl, Nat.le_of_ble_eq_true rfl⟩ ⟨Nat.le_of_ble_eq_true rfl, Nat.le_of_ble_eq_true rfl⟩ rfl (rest := []) rfl (Nat.le_of_ble_eq_true rfl) dX6_info_20 (fun H locs hP hS => ?_)
  have e := Option.some.inj h
  exact x_ir C hlk hP hS hr e dX6_info_23
theorem dX6_child_0 : decode cX6_child 0 = .ok (.aload_n 0, 1) := by decide +kernel
theorem dX6_child_1 : decode cX6_child 1 = .ok (.iload_n 1, 1) := by decide +kernel
theorem dX6_child_2 : decode cX6_child 2 = .ok (.invokevirtual 62, 3) := by decide +kernel
theorem dX6_child_5 : decode cX6_child 5 = .ok (.aload_n 0, 1) := by decide +kernel
theorem dX6_child_6 : decode cX6_child 6 = .ok (.getfield 10, 3) := by decide +kernel
theorem dX6_child_9 : decode cX6_child 9 = .ok (.getfield 27, 3) := by decide +kernel
theorem dX6_child_12 : decode cX6_child 12 = .ok (.iload_n 1, 1) := by decide +kernel
theorem dX6_child_13 : decode cX6_child 13 = .ok (.iload_n 2, 1) := by decide +kernel
theorem dX6_child_14 : decode cX6_child 14 = .ok (.invokevirtual 135, 3) := by decide +kernel
theorem dX6_child_17 : decode cX6_child 17 = .ok (.ireturn, 1) := by decide +kernel
abbrev rmX6_child : Room := { frames := 7, cells := 1, slots := 6, locals := 121 }
noncomputable def fX6_child (n : Nat) (Sh : Sp) (M : Mm) (a0 : Nat) (a1 : Int32) (a2 : Int32) : Option (String ⊕ Int32) :=
  xb (fX6_requireNode n Sh M a0 a1) (fun E => some (Sum.inl E)) <|
  tF M a0 0 fun b3 =>
  gF Sh M b3 3 0 fun b4 =>
  chk (Sh b4 = some (.inl 4)) <|
  (fX4_kidAt n Sh M b4 a1 a2).bind fun r5 =>
  some (Sum.inr r5)
set_option maxRecDepth 100000 in
set_option maxHeartbeats 4000000 in
theorem kX6_child {l : Launch} {G : Gt} {n : Nat} {Sh : Sp} {M : Mm} {a0 : Nat} {a1 : Int32} {a2 : Int32} (hT : Sh a0 = some (.inl 6)) (hfl : l.stackTraces = false) {r : (String ⊕ Int32)} (h : fX6_child n Sh M a0 a1 a2 = some r) : CtX l yX6_child cX6_child 3 (some .int) rmX6_child G Sh M [.ref a0, .int a1, .int a2] (rsI r) M := by
  refine CtX.of (by decide) (Nat.le_of_ble_eq_true rfl) ?_
  intro p e s m args below meth c ls C hK hX hP hS hb hlk hr hno hl
  replace hl : lv_has ls 3 [(0, .ref a0), (1, .int a1), (2, .int a2)] := hl
  unfold fX6_child at h
  refine lv_aload_n C.1 C.2.1 dX6_child_0 rfl (lv_at hl 0 rfl) ?_
  refine lv_iload_n C.1 C.2.1 dX6_child_1 rfl (lv_at hl 1 rfl) ?_
  obtain ⟨z2, hc, hE, h⟩ := xb_some h
  refine r_VX0 C hno hlk hK hX hb hP hS hl.1 (kX6_requireNode hT hfl hc) hT cl_6 wd_671 mo_X6_requireNode wd_673 wd_12 ⟨Nat.le_of_ble_eq_true rfl, Nat.le_of_ble_eq_true rfl⟩ ⟨Nat.le_of_ble_eq_true rfl, Nat.le_of_ble_eq_true rfl⟩ rfl (rest := []) rfl (Nat.le_of_ble_eq_true rfl) dX6_child_2 (k1 := 1) (k2 := 6) ⟨Nat.le_of_ble_eq_true rfl, Nat.le_of_ble_eq_true rfl⟩ ⟨Nat.le_of_ble_eq_true rfl, Nat.le_of_ble_eq_true rfl⟩ (fun E q => by have e := Option.some.inj (hE E q); rw [← e]; exact ⟨rfl, rfl⟩) (fun H locs hz hP hS => ?_)
  replace h := h hz
  refine lv_aload_n C.1 C.2.1 dX6_child_5 rfl (lv_at hl 0 rfl) ?_
  refine r_tF C hK hP hT cl_6 (k := 0) (by decide) wd_264 rfl dX6_child_6 h (fun b3 h => ?_)
  refine r_gFN C hK hP cl_3 (k := 0) (by decide) (hX.nw wd_209) rfl dX6_child_9 h (fun b4 h => ?_)
  refine lv_iload_n C.1 C.2.1 dX6_child_12 rfl (lv_at hl 1 rfl) ?_
  refine lv_iload_n C.1 C.2.1 dX6_child_13 rfl (lv_at hl 2 rfl) ?_
  obtain ⟨hs, h⟩ := chk_some h
  obtain ⟨r5, hc, h⟩ := bS h
  refine r_V1 C hK hX hb hP hS hl.1 (kX4_kidAt (hs) hc) hs cl_4 wd_850 mo_X4_kidAt wd_326 wd_327 ⟨Nat.le_of_ble_eq_true rfl, Nat.le_of_ble_eq_true rfl⟩ ⟨Nat.le_of_ble_eq_true rfl, Nat.le_of_ble_eq_true rfl⟩ rfl (rest := []) rfl (Nat.le_of_ble_eq_true rfl) dX6_child_14 (fun H locs hP hS => ?_)
  have e := Option.some.inj h
  exact x_ir C hlk hP hS hr e dX6_child_17
theorem dX6_lowestValue_0 : decode cX6_lowestValue 0 = .ok (.iload_n 0, 1) := by decide +kernel
theorem dX6_lowestValue_1 : decode cX6_lowestValue 1 = .ok (.iconst 2, 1) := by decide +kernel
theorem dX6_lowestValue_2 : decode cX6_lowestValue 2 = .ok (.if_icmp .ne 7, 3) := by decide +kernel
theorem dX6_lowestValue_5 : decode cX6_lowestValue 5 = .ok (.iconst (-1), 1) := by decide +kernel
theorem dX6_lowestValue_6 : decode cX6_lowestValue 6 = .ok (.goto 4, 3) := by decide +kernel
theorem dX6_lowestValue_9 : decode cX6_lowestValue 9 = .ok (.iconst 0, 1) := by decide +kernel
theorem dX6_lowestValue_10 : decode cX6_lowestValue 10 = .ok (.ireturn, 1) := by decide +kernel
abbrev rmX6_lowestValue : Room := { frames := 1, cells := 0, slots := 0, locals := 40 }
noncomputable def fX6_lowestValue (n : Nat) (Sh : Sp) (M : Mm) (a0 : Int32) : Option Int32 :=
  if a0 = 2 then
    some (-1)
  else
    some 0
set_option maxRecDepth 100000 in
set_option maxHeartbeats 4000000 in
theorem kX6_lowestValue {l : Launch} {G : Gt} {n : Nat} {Sh : Sp} {M : Mm} {a0 : Int32} {r : Int32} (h : fX6_lowestValue n Sh M a0 = some r) : Ct l yX6_lowestValue cX6_lowestValue 1 (some .int) rmX6_lowestValue G Sh M [.int a0] (some (.int r)) M := by
  refine Ct.of (by decide) (Nat.le_of_ble_eq_true rfl) ?_
  intro p e s m args below meth c ls C hK hX hP hS hb hlk hr hl
  replace hl : lv_has ls 1 [(0, .int a0)] := hl
  unfold fX6_lowestValue at h
  refine lv_iload_n C.1 C.2.1 dX6_lowestValue_0 rfl (lv_at hl 0 rfl) ?_
  refine lv_iconst (v := 2) C.1 C.2.1 dX6_lowestValue_1 (by decide) ?_
  refine b_ine (tgt := 9) C dX6_lowestValue_2 (by decide) h (fun h => ?_) (fun h => ?_)
  · refine lv_iconst (v := (-1)) C.1 C.2.1 dX6_lowestValue_5 (by decide) ?_
    refine lv_goto (tgt := 10) C.1 C.2.1 dX6_lowestValue_6 (by decide) ?_
    have e := Option.some.inj h
    exact q_i C hlk hP hS hr (by rw [← e]) rfl dX6_lowestValue_10
  · refine lv_iconst (v := 0) C.1 C.2.1 dX6_lowestValue_9 (by decide) ?_
    have e := Option.some.inj h
    exact q_i C hlk hP hS hr (by rw [← e]) rfl dX6_lowestValue_10
theorem dX6_highestValue_0 : decode cX6_highestValue 0 = .ok (.iload_n 0, 1) := by decide +kernel
theorem dX6_highestValue_1 : decode cX6_highestValue 1 = .ok (.iconst 2, 1) := by decide +kernel
theorem dX6_highestValue_2 : decode cX6_highestValue 2 = .ok (.if_icmp .ne 6, 3) := by decide +kernel
theorem dX6_highestValue_5 : decode cX6_highestValue 5 = .ok (.bipush 9, 2) := by decide +kernel
theorem dX6_highestValue_7 : decode cX6_highestValue 7 = .ok (.ireturn, 1) := by decide +kernel
theorem dX6_highestValue_8 : decode cX6_highestValue 8 = .ok (.iload_n 0, 1) := by decide +kernel
theorem dX6_highestValue_9 : decode cX6_highestValue 9 = .ok (.iconst 3, 1) := by decide +kernel
theorem dX6_highestValue_10 : decode cX6_highestValue 10 = .ok (.if_icmp .ne 7, 3) := by decide +kernel
theorem dX6_highestValue_13 : decode cX6_highestValue 13 = .ok (.iconst 3, 1) := by decide +kernel
theorem dX6_highestValue_14 : decode cX6_highestValue 14 = .ok (.goto 4, 3) := by decide +kernel
theorem dX6_highestValue_17 : decode cX6_highestValue 17 = .ok (.iconst 1, 1) := by decide +kernel
theorem dX6_highestValue_18 : decode cX6_highestValue 18 = .ok (.ireturn, 1) := by decide +kernel
abbrev rmX6_highestValue : Room := { frames := 1, cells := 0, slots := 0, locals := 40 }
noncomputable def fX6_highestValue (n : Nat) (Sh : Sp) (M : Mm) (a0 : Int32) : Option Int32 :=
  if a0 = 2 then
    some 9
  else
    if a0 = 3 then
      some 3
    else
      some 1
set_option maxRecDepth 100000 in
set_option maxHeartbeats 4000000 in
theorem kX6_highestValue {l : Launch} {G : Gt} {n : Nat} {Sh : Sp} {M : Mm} {a0 : Int32} {r : Int32} (h : fX6_highestValue n Sh M a0 = some r) : Ct l yX6_highestValue cX6_highestValue 1 (some .int) rmX6_highestValue G Sh M [.int a0] (some (.int r)) M := by
  refine Ct.of (by decide) (Nat.le_of_ble_eq_true rfl) ?_
  intro p e s m args below meth c ls C hK hX hP hS hb hlk hr hl
  replace hl : lv_has ls 1 [(0, .int a0)] := hl
  unfold fX6_highestValue at h
  refine lv_iload_n C.1 C.2.1 dX6_highestValue_0 rfl (lv_at hl 0 rfl) ?_
  refine lv_iconst (v := 2) C.1 C.2.1 dX6_highestValue_1 (by decide) ?_
  refine b_ine (tgt := 8) C dX6_highestValue_2 (by decide) h (fun h => ?_) (fun h => ?_)
  · refine lv_bipush (v := 9) C.1 C.2.1 dX6_highestValue_5 (by decide) ?_
    have e := Option.some.inj h
    exact q_i C hlk hP hS hr (by rw [← e]) rfl dX6_highestValue_7
  · refine lv_iload_n C.1 C.2.1 dX6_highestValue_8 rfl (lv_at hl 0 rfl) ?_
    refine lv_iconst (v := 3) C.1 C.2.1 dX6_highestValue_9 (by decide) ?_
    refine b_ine (tgt := 17) C dX6_highestValue_10 (by decide) h (fun h => ?_) (fun h => ?_)
    · refine lv_iconst (v := 3) C.1 C.2.1 dX6_highestValue_13 (by decide) ?_
      refine lv_goto (tgt := 18) C.1 C.2.1 dX6_highestValue_14 (by decide) ?_
      have e := Option.some.inj h
      exact q_i C hlk hP hS hr (by rw [← e]) rfl dX6_highestValue_18
    · refine lv_iconst (v := 1) C.1 C.2.1 dX6_highestValue_17 (by decide) ?_
      have e := Option.some.inj h
      exact q_i C hlk hP hS hr (by rw [← e]) rfl dX6_highestValue_18
theorem dX6_set_0 : decode cX6_set 0 = .ok (.aload_n 0, 1) := by decide +kernel
theorem dX6_set_1 : decode cX6_set 1 = .ok (.iload_n 1, 1) := by decide +kernel
theorem dX6_set_2 : decode cX6_set 2 = .ok (.invokevirtual 62, 3) := by decide +kernel
theorem dX6_set_5 : decode cX6_set 5 = .ok (.iload_n 2, 1) := by decide +kernel
theorem dX6_set_6 : decode cX6_set 6 = .ok (.iconst 5, 1) := by decide +kernel
theorem dX6_set_7 : decode cX6_set 7 = .ok (.invokestatic 128, 3) := by decide +kernel
theorem dX6_set_10 : decode cX6_set 10 = .ok (.iload_n 3, 1) := by decide +kernel
theorem dX6_set_11 : decode cX6_set 11 = .ok (.iload_n 2, 1) := by decide +kernel
theorem dX6_set_12 : decode cX6_set 12 = .ok (.invokestatic 138, 3) := by decide +kernel
theorem dX6_set_15 : decode cX6_set 15 = .ok (.if_icmp .lt 11, 3) := by decide +kernel
theorem dX6_set_18 : decode cX6_set 18 = .ok (.iload_n 3, 1) := by decide +kernel
theorem dX6_set_19 : decode cX6_set 19 = .ok (.iload_n 2, 1) := by decide +kernel
theorem dX6_set_20 : decode cX6_set 20 = .ok (.invokestatic 141, 3) := by decide +kernel
theorem dX6_set_23 : decode cX6_set 23 = .ok (.if_icmp .le 13, 3) := by decide +kernel
theorem dX6_set_26 : decode cX6_set 26 = .ok (.new 78, 3) := by decide +kernel
theorem dX6_set_29 : decode cX6_set 29 = .ok (.dup, 1) := by decide +kernel
theorem dX6_set_30 : decode cX6_set 30 = .ok (.ldc 144, 2) := by decide +kernel
theorem dX6_set_32 : decode cX6_set 32 = .ok (.invokespecial 82, 3) := by decide +kernel
theorem dX6_set_35 : decode cX6_set 35 = .ok (.athrow, 1) := by decide +kernel
theorem dX6_set_36 : decode cX6_set 36 = .ok (.iload_n 1, 1) := by decide +kernel
theorem dX6_set_37 : decode cX6_set 37 = .ok (.ifCond .ne 17, 3) := by decide +kernel
theorem dX6_set_40 : decode cX6_set 40 = .ok (.iload_n 2, 1) := by decide +kernel
theorem dX6_set_41 : decode cX6_set 41 = .ok (.ifCond .ne 13, 3) := by decide +kernel
theorem dX6_set_44 : decode cX6_set 44 = .ok (.new 87, 3) := by decide +kernel
theorem dX6_set_47 : decode cX6_set 47 = .ok (.dup, 1) := by decide +kernel
theorem dX6_set_48 : decode cX6_set 48 = .ok (.ldc 146, 2) := by decide +kernel
theorem dX6_set_50 : decode cX6_set 50 = .ok (.invokespecial 91, 3) := by decide +kernel
theorem dX6_set_53 : decode cX6_set 53 = .ok (.athrow, 1) := by decide +kernel
theorem dX6_set_54 : decode cX6_set 54 = .ok (.aload_n 0, 1) := by decide +kernel
theorem dX6_set_55 : decode cX6_set 55 = .ok (.invokevirtual 92, 3) := by decide +kernel
theorem dX6_set_58 : decode cX6_set 58 = .ok (.aload_n 0, 1) := by decide +kernel
theorem dX6_set_59 : decode cX6_set 59 = .ok (.getfield 10, 3) := by decide +kernel
theorem dX6_set_62 : decode cX6_set 62 = .ok (.getfield 27, 3) := by decide +kernel
theorem dX6_set_65 : decode cX6_set 65 = .ok (.iload_n 1, 1) := by decide +kernel
theorem dX6_set_66 : decode cX6_set 66 = .ok (.iload_n 2, 1) := by decide +kernel
theorem dX6_set_67 : decode cX6_set 67 = .ok (.invokevirtual 148, 3) := by decide +kernel
theorem dX6_set_70 : decode cX6_set 70 = .ok (.istore 4, 2) := by decide +kernel
theorem dX6_set_72 : decode cX6_set 72 = .ok (.aload_n 0, 1) := by decide +kernel
theorem dX6_set_73 : decode cX6_set 73 = .ok (.getfield 10, 3) := by decide +kernel
theorem dX6_set_76 : decode cX6_set 76 = .ok (.getfield 27, 3) := by decide +kernel
theorem dX6_set_79 : decode cX6_set 79 = .ok (.iload_n 1, 1) := by decide +kernel
theorem dX6_set_80 : decode cX6_set 80 = .ok (.iload_n 2, 1) := by decide +kernel
theorem dX6_set_81 : decode cX6_set 81 = .ok (.iload_n 3, 1) := by decide +kernel
theorem dX6_set_82 : decode cX6_set 82 = .ok (.invokevirtual 151, 3) := by decide +kernel
theorem dX6_set_85 : decode cX6_set 85 = .ok (.iload_n 2, 1) := by decide +kernel
theorem dX6_set_86 : decode cX6_set 86 = .ok (.ifCond .ne 25, 3) := by decide +kernel
theorem dX6_set_89 : decode cX6_set 89 = .ok (.iload 4, 2) := by decide +kernel
theorem dX6_set_91 : decode cX6_set 91 = .ok (.iconst 1, 1) := by decide +kernel
theorem dX6_set_92 : decode cX6_set 92 = .ok (.if_icmp .ne 19, 3) := by decide +kernel
theorem dX6_set_95 : decode cX6_set 95 = .ok (.iload_n 3, 1) := by decide +kernel
theorem dX6_set_96 : decode cX6_set 96 = .ok (.ifCond .ne 15, 3) := by decide +kernel
theorem dX6_set_99 : decode cX6_set 99 = .ok (.aload_n 0, 1) := by decide +kernel
theorem dX6_set_100 : decode cX6_set 100 = .ok (.getfield 10, 3) := by decide +kernel
theorem dX6_set_103 : decode cX6_set 103 = .ok (.iload_n 1, 1) := by decide +kernel
theorem dX6_set_104 : decode cX6_set 104 = .ok (.aload_n 0, 1) := by decide +kernel
theorem dX6_set_105 : decode cX6_set 105 = .ok (.getfield 55, 3) := by decide +kernel
theorem dX6_set_108 : decode cX6_set 108 = .ok (.invokevirtual 154, 3) := by decide +kernel
theorem dX6_set_111 : decode cX6_set 111 = .ok (.iload 4, 2) := by decide +kernel
theorem dX6_set_113 : decode cX6_set 113 = .ok (.ireturn, 1) := by decide +kernel
abbrev rmX6_set : Room := { frames := 66, cells := 3, slots := 18, locals := 1668 }
noncomputable def fX6_set_54 (n : Nat) (Sh : Sp) (a0 : Nat) (a1 : Int32) (a2 : Int32) (a3 : Int32) (M : Mm) : Option ((String ⊕ Int32) × Mm) :=
  (fX6_keepRecord n Sh M a0).bind fun r1 =>
  tF r1 a0 0 fun b2 =>
  gF Sh r1 b2 3 0 fun b3 =>
  chk (Sh b3 = some (.inl 4)) <|
  (fX4_setting n Sh r1 b3 a1 a2).bind fun r4 =>
  tF r1 a0 0 fun b5 =>
  gF Sh r1 b5 3 0 fun b6 =>
  chk (Sh b6 = some (.inl 4)) <|
  (fX4_give n Sh r1 b6 a1 a2 a3).bind fun r7 =>
  if a2 = 0 then
    if r4 = 1 then
      if a3 = 0 then
        tF r7 a0 0 fun b8 =>
        tF r7 a0 6 fun b9 =>
        chk (Sh b8 = some (.inl 3)) <|
        (fX3_announceChange n Sh r7 b8 a1 b9).bind fun r10 =>
        some (Sum.inr r4, r10)
      else
        some (Sum.inr r4, r7)
    else
      some (Sum.inr r4, r7)
  else
    some (Sum.inr r4, r7)
noncomputable def fX6_set_26 (n : Nat) (Sh : Sp) (a0 : Nat) (a1 : Int32) (a2 : Int32) (a3 : Int32) (M : Mm) : Option ((String ⊕ Int32) × Mm) :=
  some (Sum.inl "java/lang/IllegalArgumentException", M)
noncomputable def fX6_set (n : Nat) (Sh : Sp) (M : Mm) (a0 : Nat) (a1 : Int32) (a2 : Int32) (a3 : Int32) : Option ((String ⊕ Int32) × Mm) :=
  xb (fX6_requireNode n Sh M a0 a1) (fun E => some (Sum.inl E, M)) <|
  xb (fX6_requireKind n Sh M a2 5) (fun E => some (Sum.inl E, M)) <|
  (fX6_lowestValue n Sh M a2).bind fun r15 =>
  if a3 < r15 then
    fX6_set_26 n Sh a0 a1 a2 a3 M
  else
    (fX6_highestValue n Sh M a2).bind fun r16 =>
    if a3 ≤ r16 then
      if a1 = 0 then
        if a2 = 0 then
          some (Sum.inl "java/lang/IllegalStateException", M)
        else
          fX6_set_54 n Sh a0 a1 a2 a3 M
      else
        fX6_set_54 n Sh a0 a1 a2 a3 M
    else
      fX6_set_26 n Sh a0 a1 a2 a3 M
set_option maxRecDepth 100000 in
set_option maxHeartbeats 4000000 in
theorem kX6_set {l : Launch} {G : Gt} {n : Nat} {Sh : Sp} {M : Mm} {a0 : Nat} {a1 : Int32} {a2 : Int32} {a3 : Int32} (hT : Sh a0 = some (.inl 6)) (hfl : l.stackTraces = false) {r : ((String ⊕ Int32) × Mm)} (h : fX6_set n Sh M a0 a1 a2 a3 = some r) : CtX l yX6_set cX6_set 5 (some .int) rmX6_set G Sh M [.ref a0, .int a1, .int a2, .int a3] (rsI r.1) r.2 := by
  refine CtX.of (by decide) (Nat.le_of_ble_eq_true rfl) ?_
  intro p e s m args below meth c ls C hK hX hP hS hb hlk hr hno hl
  replace hl : lv_has ls 5 [(0, .ref a0), (1, .int a1), (2, .int a2), (3, .int a3)] := hl
  have J54 : ∀ (M : Mm) (H : Heap) (locs : List Loc) (ls : Array Slot), HM G Sh M H → SS G s s.heap.size H locs → lv_has ls 5 [(0, .ref a0), (1, .int a1), (2, .int a2), (3, .int a3)] → fX6_set_54 n Sh a0 a1 a2 a3 M = some r → W p l e rmX6_set s m args below meth c H locs 2 12 (vx_MQ below (QX G Sh (rsI r.1) r.2) (XX G Sh (rsI r.1) r.2) args s rmX6_set.cells rmX6_set.slots (AA G)) (F0 m 54 ls []) := by
    intro M H locs ls hP hS hl h
    unfold fX6_set_54 at h
    refine lv_aload_n C.1 C.2.1 dX6_set_54 rfl (lv_at hl 0 rfl) ?_
    obtain ⟨r1, hc, h⟩ := bS h
    refine r_V0 C hK hX hb hP hS hl.1 (kX6_keepRecord (hT) hc) hT cl_6 wd_394 mo_X6_keepRecord wd_396 wd_3 ⟨Nat.le_of_ble_eq_true rfl, Nat.le_of_ble_eq_true rfl⟩ ⟨Nat.le_of_ble_eq_true rfl, Nat.le_of_ble_eq_true rfl⟩ rfl (rest := []) rfl (Nat.le_of_ble_eq_true rfl) dX6_set_55 (fun H locs hP hS => ?_)
    refine lv_aload_n C.1 C.2.1 dX6_set_58 rfl (lv_at hl 0 rfl) ?_
    refine r_tF C hK hP hT cl_6 (k := 0) (by decide) wd_264 rfl dX6_set_59 h (fun b2 h => ?_)
    refine r_gFN C hK hP cl_3 (k := 0) (by decide) (hX.nw wd_209) rfl dX6_set_62 h (fun b3 h => ?_)
    refine lv_iload_n C.1 C.2.1 dX6_set_65 rfl (lv_at hl 1 rfl) ?_
    refine lv_iload_n C.1 C.2.1 dX6_set_66 rfl (lv_at hl 2 rfl) ?_
    obtain ⟨hs, h⟩ := chk_some h
    obtain ⟨r4, hc, h⟩ := bS h
    refine r_V1 C hK hX hb hP hS hl.1 (kX4_setting (hs) hc) hs cl_4 wd_866 mo_X4_setting wd_355 wd_356 ⟨Nat.le_of_ble_eq_true rfl, Nat.le_of_ble_eq_true rfl⟩ ⟨Nat.le_of_ble_eq_true rfl, Nat.le_of_ble_eq_true rfl⟩ rfl (rest := []) rfl (Nat.le_of_ble_eq_true rfl) dX6_set_67 (fun H locs hP hS => ?_)
    refine lv_istore (lv' := [(4, .int r4), (0, .ref a0), (1, .int a1), (2, .int a2), (3, .int a3)]) C.1 C.2.1 dX6_set_70 hl (by decide) rfl (fun ls hl => ?_)
    refine lv_aload_n C.1 C.2.1 dX6_set_72 rfl (lv_at hl 1 rfl) ?_
    refine r_tF C hK hP hT cl_6 (k := 0) (by decide) wd_264 rfl dX6_set_73 h (fun b5 h => ?_)
    refine r_gFN C hK hP cl_3 (k := 0) (by decide) (hX.nw wd_209) rfl dX6_set_76 h (fun b6 h => ?_)
    refine lv_iload_n C.1 C.2.1 dX6_set_79 rfl (lv_at hl 2 rfl) ?_
    refine lv_iload_n C.1 C.2.1 dX6_set_80 rfl (lv_at hl 3 rfl) ?_
    refine lv_iload_n C.1 C.2.1 dX6_set_81 rfl (lv_at hl 4 rfl) ?_
    obtain ⟨hs, h⟩ := chk_some h
    obtain ⟨r7, hc, h⟩ := bS h
    refine r_V0 C hK hX hb hP hS hl.1 (kX4_give (hs) hc) hs cl_4 wd_867 mo_X4_give wd_868 wd_869 ⟨Nat.le_of_ble_eq_true rfl, Nat.le_of_ble_eq_true rfl⟩ ⟨Nat.le_of_ble_eq_true rfl, Nat.le_of_ble_eq_true rfl⟩ rfl (rest := []) rfl (Nat.le_of_ble_eq_true rfl) dX6_set_82 (fun H locs hP hS => ?_)
    refine lv_iload_n C.1 C.2.1 dX6_set_85 rfl (lv_at hl 3 rfl) ?_
    refine b_ne (tgt := 111) C dX6_set_86 (by decide) h (fun h => ?_) (fun h => ?_)
    · refine lv_iload C.1 C.2.1 dX6_set_89 (lv_at hl 0 rfl) ?_
      refine lv_iconst (v := 1) C.1 C.2.1 dX6_set_91 (by decide) ?_
      refine b_ine (tgt := 111) C dX6_set_92 (by decide) h (fun h => ?_) (fun h => ?_)
      · refine lv_iload_n C.1 C.2.1 dX6_set_95 rfl (lv_at hl 4 rfl) ?_
        refine b_ne (tgt := 111) C dX6_set_96 (by decide) h (fun h => ?_) (fun h => ?_)
        · refine lv_aload_n C.1 C.2.1 dX6_set_99 rfl (lv_at hl 1 rfl) ?_
          refine r_tF C hK hP hT cl_6 (k := 0) (by decide) wd_264 rfl dX6_set_100 h (fun b8 h => ?_)
          refine lv_iload_n C.1 C.2.1 dX6_set_103 rfl (lv_at hl 2 rfl) ?_
          refine lv_aload_n C.1 C.2.1 dX6_set_104 rfl (lv_at hl 1 rfl) ?_
          refine r_tF C hK hP hT cl_6 (k := 6) (by decide) wd_270 rfl dX6_set_105 h (fun b9 h => ?_)
          obtain ⟨hs, h⟩ := chk_some h
          obtain ⟨r10, hc, h⟩ := bS h
          refine r_V0 C hK hX hb hP hS hl.1 (kX3_announceChange (hs) hc) hs cl_3 wd_871 mo_X3_announceChange wd_872 wd_873 ⟨Nat.le_of_ble_eq_true rfl, Nat.le_of_ble_eq_true rfl⟩ ⟨Nat.le_of_ble_eq_true rfl, Nat.le_of_ble_eq_true rfl⟩ rfl (rest := []) rfl (Nat.le_of_ble_eq_true rfl) dX6_set_108 (fun H locs hP hS => ?_)
          refine lv_iload C.1 C.2.1 dX6_set_111 (lv_at hl 0 rfl) ?_
          have e := Option.some.inj h
          refine W.widen (k := 3) (n := 18) (Nat.le_of_ble_eq_true rfl) (Nat.le_of_ble_eq_true rfl) ?_
          exact x_i C hlk hP hS hr e dX6_set_113
        · refine lv_iload C.1 C.2.1 dX6_set_111 (lv_at hl 0 rfl) ?_
          have e := Option.some.inj h
          refine W.widen (k := 3) (n := 18) (Nat.le_of_ble_eq_true rfl) (Nat.le_of_ble_eq_true rfl) ?_
          exact x_i C hlk hP hS hr e dX6_set_113
      · refine lv_iload C.1 C.2.1 dX6_set_111 (lv_at hl 0 rfl) ?_
        have e := Option.some.inj h
        refine W.widen (k := 3) (n := 18) (Nat.le_of_ble_eq_true rfl) (Nat.le_of_ble_eq_true rfl) ?_
        exact x_i C hlk hP hS hr e dX6_set_113
    · refine lv_iload C.1 C.2.1 dX6_set_111 (lv_at hl 0 rfl) ?_
      have e := Option.some.inj h
      refine W.widen (k := 3) (n := 18) (Nat.le_of_ble_eq_true rfl) (Nat.le_of_ble_eq_true rfl) ?_
      exact x_i C hlk hP hS hr e dX6_set_113
  have J26 : ∀ (M : Mm) (H : Heap) (locs : List Loc) (ls : Array Slot), HM G Sh M H → SS G s s.heap.size H locs → lv_has ls 5 [(0, .ref a0), (1, .int a1), (2, .int a2), (3, .int a3)] → fX6_set_26 n Sh a0 a1 a2 a3 M = some r → W p l e rmX6_set s m args below meth c H locs 2 12 (vx_MQ below (QX G Sh (rsI r.1) r.2) (XX G Sh (rsI r.1) r.2) args s rmX6_set.cells rmX6_set.slots (AA G)) (F0 m 26 ls []) := by
    intro M H locs ls hP hS hl h
    unfold fX6_set_26 at h
    have e := Option.some.inj h
    subst e
    exact x_new (rest := []) (text := "no such value") C hfl hno hX hP hS hlk hl.1 (by decide +kernel) wd_745 wd_87 (by decide +kernel) xw_82 xg_82 dX6_set_26 dX6_set_29 dX6_set_30 dX6_set_32 dX6_set_35 (by decide) (Nat.le_of_ble_eq_true rfl) (Nat.le_of_ble_eq_true rfl) (Nat.le_of_ble_eq_true rfl) (Nat.le_of_ble_eq_true rfl) (Nat.le_of_ble_eq_true rfl) rfl
  unfold fX6_set at h
  refine lv_aload_n C.1 C.2.1 dX6_set_0 rfl (lv_at hl 0 rfl) ?_
  refine lv_iload_n C.1 C.2.1 dX6_set_1 rfl (lv_at hl 1 rfl) ?_
  obtain ⟨z12, hc, hE, h⟩ := xb_some h
  refine r_VX0 C hno hlk hK hX hb hP hS hl.1 (kX6_requireNode hT hfl hc) hT cl_6 wd_671 mo_X6_requireNode wd_673 wd_12 ⟨Nat.le_of_ble_eq_true rfl, Nat.le_of_ble_eq_true rfl⟩ ⟨Nat.le_of_ble_eq_true rfl, Nat.le_of_ble_eq_true rfl⟩ rfl (rest := []) rfl (Nat.le_of_ble_eq_true rfl) dX6_set_2 (k1 := 1) (k2 := 6) ⟨Nat.le_of_ble_eq_true rfl, Nat.le_of_ble_eq_true rfl⟩ ⟨Nat.le_of_ble_eq_true rfl, Nat.le_of_ble_eq_true rfl⟩ (fun E q => by have e := Option.some.inj (hE E q); rw [← e]; exact ⟨rfl, rfl⟩) (fun H locs hz hP hS => ?_)
  replace h := h hz
  refine lv_iload_n C.1 C.2.1 dX6_set_5 rfl (lv_at hl 2 rfl) ?_
  refine lv_iconst (v := 5) C.1 C.2.1 dX6_set_6 (by decide) ?_
  obtain ⟨z14, hc, hE, h⟩ := xb_some h
  refine r_SX0 C hno hlk hK hX hb hP hS hl.1 (kX6_requireKind hfl hc) wd_839 mo_X6_requireKind wd_840 ⟨Nat.le_of_ble_eq_true rfl, Nat.le_of_ble_eq_true rfl⟩ ⟨Nat.le_of_ble_eq_true rfl, Nat.le_of_ble_eq_true rfl⟩ rfl (rest := []) rfl (Nat.le_of_ble_eq_true rfl) dX6_set_7 (k1 := 2) (k2 := 12) ⟨Nat.le_of_ble_eq_true rfl, Nat.le_of_ble_eq_true rfl⟩ ⟨Nat.le_of_ble_eq_true rfl, Nat.le_of_ble_eq_true rfl⟩ (fun E q => by have e := Option.some.inj (hE E q); rw [← e]; exact ⟨rfl, rfl⟩) (fun H locs hz hP hS => ?_)
  replace h := h hz
  refine lv_iload_n C.1 C.2.1 dX6_set_10 rfl (lv_at hl 3 rfl) ?_
  refine lv_iload_n C.1 C.2.1 dX6_set_11 rfl (lv_at hl 2 rfl) ?_
  obtain ⟨r15, hc, h⟩ := bS h
  refine r_S1 C hK hX hb hP hS hl.1 (kX6_lowestValue hc) wd_858 mo_X6_lowestValue wd_859 ⟨Nat.le_of_ble_eq_true rfl, Nat.le_of_ble_eq_true rfl⟩ ⟨Nat.le_of_ble_eq_true rfl, Nat.le_of_ble_eq_true rfl⟩ rfl (rest := [.int a3]) rfl (Nat.le_of_ble_eq_true rfl) dX6_set_12 (fun H locs hP hS => ?_)
  refine b_ilt (tgt := 26) C dX6_set_15 (by decide) h (fun h => ?_) (fun h => ?_)
  · exact J26 (M) _ _ _ hP hS (lv_sub hl [0, 1, 2, 3] rfl) h
  · refine lv_iload_n C.1 C.2.1 dX6_set_18 rfl (lv_at hl 3 rfl) ?_
    refine lv_iload_n C.1 C.2.1 dX6_set_19 rfl (lv_at hl 2 rfl) ?_
    obtain ⟨r16, hc, h⟩ := bS h
    refine r_S1 C hK hX hb hP hS hl.1 (kX6_highestValue hc) wd_861 mo_X6_highestValue wd_862 ⟨Nat.le_of_ble_eq_true rfl, Nat.le_of_ble_eq_true rfl⟩ ⟨Nat.le_of_ble_eq_true rfl, Nat.le_of_ble_eq_true rfl⟩ rfl (rest := [.int a3]) rfl (Nat.le_of_ble_eq_true rfl) dX6_set_20 (fun H locs hP hS => ?_)
    refine b_ile (tgt := 36) C dX6_set_23 (by decide) h (fun h => ?_) (fun h => ?_)
    · refine lv_iload_n C.1 C.2.1 dX6_set_36 rfl (lv_at hl 1 rfl) ?_
      refine b_ne (tgt := 54) C dX6_set_37 (by decide) h (fun h => ?_) (fun h => ?_)
      · refine lv_iload_n C.1 C.2.1 dX6_set_40 rfl (lv_at hl 2 rfl) ?_
        refine b_ne (tgt := 54) C dX6_set_41 (by decide) h (fun h => ?_) (fun h => ?_)
        · have e := Option.some.inj h
          subst e
          exact x_new (rest := []) (text := "the root is never hidden") C hfl hno hX hP hS hlk hl.1 (by decide +kernel) wd_765 wd_88 (by decide +kernel) xw_91 xg_91 dX6_set_44 dX6_set_47 dX6_set_48 dX6_set_50 dX6_set_53 (by decide) (Nat.le_of_ble_eq_true rfl) (Nat.le_of_ble_eq_true rfl) (Nat.le_of_ble_eq_true rfl) (Nat.le_of_ble_eq_true rfl) (Nat.le_of_ble_eq_true rfl) rfl
        · exact J54 (M) _ _ _ hP hS (lv_sub hl [0, 1, 2, 3] rfl) h
      · exact J54 (M) _ _ _ hP hS (lv_sub hl [0, 1, 2, 3] rfl) h
    · exact J26 (M) _ _ _ hP hS (lv_sub hl [0, 1, 2, 3] rfl) h
theorem dX6_replaceWords_0 : decode cX6_replaceWords 0 = .ok (.aload_n 2, 1) := by decide +kernel
theorem dX6_replaceWords_1 : decode cX6_replaceWords 1 = .ok (.aload_n 0, 1) := by decide +kernel
theorem dX6_replaceWords_2 : decode cX6_replaceWords 2 = .ok (.getfield 51, 3) := by decide +kernel
theorem dX6_replaceWords_5 : decode cX6_replaceWords 5 = .ok (.invokevirtual 343, 3) := by decide +kernel
theorem dX6_replaceWords_8 : decode cX6_replaceWords 8 = .ok (.ifCond .ne 7, 3) := by decide +kernel
theorem dX6_replaceWords_11 : decode cX6_replaceWords 11 = .ok (.iconst 1, 1) := by decide +kernel
theorem dX6_replaceWords_12 : decode cX6_replaceWords 12 = .ok (.goto 4, 3) := by decide +kernel
theorem dX6_replaceWords_15 : decode cX6_replaceWords 15 = .ok (.iconst 0, 1) := by decide +kernel
theorem dX6_replaceWords_16 : decode cX6_replaceWords 16 = .ok (.istore 4, 2) := by decide +kernel
theorem dX6_replaceWords_18 : decode cX6_replaceWords 18 = .ok (.aload_n 2, 1) := by decide +kernel
theorem dX6_replaceWords_19 : decode cX6_replaceWords 19 = .ok (.aload_n 0, 1) := by decide +kernel
theorem dX6_replaceWords_20 : decode cX6_replaceWords 20 = .ok (.getfield 51, 3) := by decide +kernel
theorem dX6_replaceWords_23 : decode cX6_replaceWords 23 = .ok (.invokevirtual 346, 3) := by decide +kernel
theorem dX6_replaceWords_26 : decode cX6_replaceWords 26 = .ok (.iload_n 3, 1) := by decide +kernel
theorem dX6_replaceWords_27 : decode cX6_replaceWords 27 = .ok (.ifCond .eq 20, 3) := by decide +kernel
theorem dX6_replaceWords_30 : decode cX6_replaceWords 30 = .ok (.iload 4, 2) := by decide +kernel
theorem dX6_replaceWords_32 : decode cX6_replaceWords 32 = .ok (.ifCond .eq 15, 3) := by decide +kernel
theorem dX6_replaceWords_35 : decode cX6_replaceWords 35 = .ok (.aload_n 0, 1) := by decide +kernel
theorem dX6_replaceWords_36 : decode cX6_replaceWords 36 = .ok (.getfield 10, 3) := by decide +kernel
theorem dX6_replaceWords_39 : decode cX6_replaceWords 39 = .ok (.iload_n 1, 1) := by decide +kernel
theorem dX6_replaceWords_40 : decode cX6_replaceWords 40 = .ok (.aload_n 0, 1) := by decide +kernel
theorem dX6_replaceWords_41 : decode cX6_replaceWords 41 = .ok (.getfield 55, 3) := by decide +kernel
theorem dX6_replaceWords_44 : decode cX6_replaceWords 44 = .ok (.invokevirtual 154, 3) := by decide +kernel
theorem dX6_replaceWords_47 : decode cX6_replaceWords 47 = .ok (.return_, 1) := by decide +kernel
abbrev rmX6_replaceWords : Room := { frames := 66, cells := 0, slots := 0, locals := 1668 }
noncomputable def fX6_replaceWords_16 (n : Nat) (Sh : Sp) (a0 : Nat) (a1 : Int32) (a2 : Nat) (a3 : Int32) (M : Mm) (t0 : Int32) : Option Mm :=
  tF M a0 5 fun b1 =>
  chk (Sh a2 = some (.inl 5)) <|
  (fX5_become n Sh M a2 b1).bind fun r2 =>
  if a3 = 0 then
    some r2
  else
    if t0 = 0 then
      some r2
    else
      tF r2 a0 0 fun b3 =>
      tF r2 a0 6 fun b4 =>
      chk (Sh b3 = some (.inl 3)) <|
      (fX3_announceChange n Sh r2 b3 a1 b4).bind fun r5 =>
      some r5
noncomputable def fX6_replaceWords (n : Nat) (Sh : Sp) (M : Mm) (a0 : Nat) (a1 : Int32) (a2 : Nat) (a3 : Int32) : Option Mm :=
  tF M a0 5 fun b6 =>
  chk (Sh a2 = some (.inl 5)) <|
  (fX5_matches n Sh M a2 b6).bind fun r7 =>
  if r7 = 0 then
    fX6_replaceWords_16 n Sh a0 a1 a2 a3 M 1
  else
    fX6_replaceWords_16 n Sh a0 a1 a2 a3 M 0
set_option maxRecDepth 100000 in
set_option maxHeartbeats 4000000 in
theorem kX6_replaceWords {l : Launch} {G : Gt} {n : Nat} {Sh : Sp} {M : Mm} {a0 : Nat} {a1 : Int32} {a2 : Nat} {a3 : Int32} (hT : Sh a0 = some (.inl 6)) {r : Mm} (h : fX6_replaceWords n Sh M a0 a1 a2 a3 = some r) : Ct l yX6_replaceWords cX6_replaceWords 5 none rmX6_replaceWords G Sh M [.ref a0, .int a1, .ref a2, .int a3] none r := by
  refine Ct.of (by decide) (Nat.le_of_ble_eq_true rfl) ?_
  intro p e s m args below meth c ls C hK hX hP hS hb hlk hr hl
  replace hl : lv_has ls 5 [(0, .ref a0), (1, .int a1), (2, .ref a2), (3, .int a3)] := hl
  have J16 : ∀ (M : Mm) (t0 : Int32) (H : Heap) (locs : List Loc) (ls : Array Slot), HM G Sh M H → SS G s s.heap.size H locs → lv_has ls 5 [(0, .ref a0), (1, .int a1), (2, .ref a2), (3, .int a3)] → fX6_replaceWords_16 n Sh a0 a1 a2 a3 M t0 = some r → W p l e rmX6_replaceWords s m args below meth c H locs 0 0 (MQ below (QG G Sh r none) args s rmX6_replaceWords.cells rmX6_replaceWords.slots (AA G)) (F0 m 16 ls [.int t0]) := by
    intro M t0 H locs ls hP hS hl h
    unfold fX6_replaceWords_16 at h
    refine lv_istore (lv' := [(4, .int t0), (0, .ref a0), (1, .int a1), (2, .ref a2), (3, .int a3)]) C.1 C.2.1 dX6_replaceWords_16 hl (by decide) rfl (fun ls hl => ?_)
    refine lv_aload_n C.1 C.2.1 dX6_replaceWords_18 rfl (lv_at hl 3 rfl) ?_
    refine lv_aload_n C.1 C.2.1 dX6_replaceWords_19 rfl (lv_at hl 1 rfl) ?_
    refine r_tF C hK hP hT cl_6 (k := 5) (by decide) wd_269 rfl dX6_replaceWords_20 h (fun b1 h => ?_)
    obtain ⟨hs, h⟩ := chk_some h
    obtain ⟨r2, hc, h⟩ := bS h
    refine r_V0 C hK hX hb hP hS hl.1 (kX5_become (hs) hc) hs cl_5 wd_911 mo_X5_become wd_410 wd_411 ⟨Nat.le_of_ble_eq_true rfl, Nat.le_of_ble_eq_true rfl⟩ ⟨Nat.le_of_ble_eq_true rfl, Nat.le_of_ble_eq_true rfl⟩ rfl (rest := []) rfl (Nat.le_of_ble_eq_true rfl) dX6_replaceWords_23 (fun H locs hP hS => ?_)
    refine lv_iload_n C.1 C.2.1 dX6_replaceWords_26 rfl (lv_at hl 4 rfl) ?_
    refine b_eq (tgt := 47) C dX6_replaceWords_27 (by decide) h (fun h => ?_) (fun h => ?_)
    · have e := Option.some.inj h
      exact q_v C hlk hP hS hr rfl e.symm dX6_replaceWords_47
    · refine lv_iload C.1 C.2.1 dX6_replaceWords_30 (lv_at hl 0 rfl) ?_
      refine b_eq (tgt := 47) C dX6_replaceWords_32 (by decide) h (fun h => ?_) (fun h => ?_)
      · have e := Option.some.inj h
        exact q_v C hlk hP hS hr rfl e.symm dX6_replaceWords_47
      · refine lv_aload_n C.1 C.2.1 dX6_replaceWords_35 rfl (lv_at hl 1 rfl) ?_
        refine r_tF C hK hP hT cl_6 (k := 0) (by decide) wd_264 rfl dX6_replaceWords_36 h (fun b3 h => ?_)
        refine lv_iload_n C.1 C.2.1 dX6_replaceWords_39 rfl (lv_at hl 2 rfl) ?_
        refine lv_aload_n C.1 C.2.1 dX6_replaceWords_40 rfl (lv_at hl 1 rfl) ?_
        refine r_tF C hK hP hT cl_6 (k := 6) (by decide) wd_270 rfl dX6_replaceWords_41 h (fun b4 h => ?_)
        obtain ⟨hs, h⟩ := chk_some h
        obtain ⟨r5, hc, h⟩ := bS h
        refine r_V0 C hK hX hb hP hS hl.1 (kX3_announceChange (hs) hc) hs cl_3 wd_871 mo_X3_announceChange wd_872 wd_873 ⟨Nat.le_of_ble_eq_true rfl, Nat.le_of_ble_eq_true rfl⟩ ⟨Nat.le_of_ble_eq_true rfl, Nat.le_of_ble_eq_true rfl⟩ rfl (rest := []) rfl (Nat.le_of_ble_eq_true rfl) dX6_replaceWords_44 (fun H locs hP hS => ?_)
        have e := Option.some.inj h
        exact q_v C hlk hP hS hr rfl e.symm dX6_replaceWords_47
  unfold fX6_replaceWords at h
  refine lv_aload_n C.1 C.2.1 dX6_replaceWords_0 rfl (lv_at hl 2 rfl) ?_
  refine lv_aload_n C.1 C.2.1 dX6_replaceWords_1 rfl (lv_at hl 0 rfl) ?_
  refine r_tF C hK hP hT cl_6 (k := 5) (by decide) wd_269 rfl dX6_replaceWords_2 h (fun b6 h => ?_)
  obtain ⟨hs, h⟩ := chk_some h
  obtain ⟨r7, hc, h⟩ := bS h
  refine r_V1 C hK hX hb hP hS hl.1 (kX5_matches (hs) hc) hs cl_5 wd_907 mo_X5_matches wd_908 wd_909 ⟨Nat.le_of_ble_eq_true rfl, Nat.le_of_ble_eq_true rfl⟩ ⟨Nat.le_of_ble_eq_true rfl, Nat.le_of_ble_eq_true rfl⟩ rfl (rest := []) rfl (Nat.le_of_ble_eq_true rfl) dX6_replaceWords_5 (fun H locs hP hS => ?_)
  refine b_ne (tgt := 15) C dX6_replaceWords_8 (by decide) h (fun h => ?_) (fun h => ?_)
  · refine lv_iconst (v := 1) C.1 C.2.1 dX6_replaceWords_11 (by decide) ?_
    refine lv_goto (tgt := 16) C.1 C.2.1 dX6_replaceWords_12 (by decide) ?_
    exact J16 (M) (1) _ _ _ hP hS (lv_sub hl [0, 1, 2, 3] rfl) h
  · refine lv_iconst (v := 0) C.1 C.2.1 dX6_replaceWords_15 (by decide) ?_
    exact J16 (M) (0) _ _ _ hP hS (lv_sub hl [0, 1, 2, 3] rfl) h
theorem dX6_setText_0 : decode cX6_setText 0 = .ok (.aload_n 0, 1) := by decide +kernel
theorem dX6_setText_1 : decode cX6_setText 1 = .ok (.iload_n 1, 1) := by decide +kernel
theorem dX6_setText_2 : decode cX6_setText 2 = .ok (.invokevirtual 62, 3) := by decide +kernel
theorem dX6_setText_5 : decode cX6_setText 5 = .ok (.aload_n 0, 1) := by decide +kernel
theorem dX6_setText_6 : decode cX6_setText 6 = .ok (.getfield 10, 3) := by decide +kernel
theorem dX6_setText_9 : decode cX6_setText 9 = .ok (.getfield 27, 3) := by decide +kernel
theorem dX6_setText_12 : decode cX6_setText 12 = .ok (.iload_n 1, 1) := by decide +kernel
theorem dX6_setText_13 : decode cX6_setText 13 = .ok (.invokevirtual 158, 3) := by decide +kernel
theorem dX6_setText_16 : decode cX6_setText 16 = .ok (.istore_n 2, 1) := by decide +kernel
theorem dX6_setText_17 : decode cX6_setText 17 = .ok (.iload_n 2, 1) := by decide +kernel
theorem dX6_setText_18 : decode cX6_setText 18 = .ok (.iconst 1, 1) := by decide +kernel
theorem dX6_setText_19 : decode cX6_setText 19 = .ok (.if_icmp .eq 18, 3) := by decide +kernel
theorem dX6_setText_22 : decode cX6_setText 22 = .ok (.iload_n 2, 1) := by decide +kernel
theorem dX6_setText_23 : decode cX6_setText 23 = .ok (.iconst 5, 1) := by decide +kernel
theorem dX6_setText_24 : decode cX6_setText 24 = .ok (.if_icmp .eq 13, 3) := by decide +kernel
theorem dX6_setText_27 : decode cX6_setText 27 = .ok (.new 87, 3) := by decide +kernel
theorem dX6_setText_30 : decode cX6_setText 30 = .ok (.dup, 1) := by decide +kernel
theorem dX6_setText_31 : decode cX6_setText 31 = .ok (.ldc 161, 2) := by decide +kernel
theorem dX6_setText_33 : decode cX6_setText 33 = .ok (.invokespecial 91, 3) := by decide +kernel
theorem dX6_setText_36 : decode cX6_setText 36 = .ok (.athrow, 1) := by decide +kernel
theorem dX6_setText_37 : decode cX6_setText 37 = .ok (.aload_n 0, 1) := by decide +kernel
theorem dX6_setText_38 : decode cX6_setText 38 = .ok (.invokevirtual 92, 3) := by decide +kernel
theorem dX6_setText_41 : decode cX6_setText 41 = .ok (.aload_n 0, 1) := by decide +kernel
theorem dX6_setText_42 : decode cX6_setText 42 = .ok (.iload_n 1, 1) := by decide +kernel
theorem dX6_setText_43 : decode cX6_setText 43 = .ok (.aload_n 0, 1) := by decide +kernel
theorem dX6_setText_44 : decode cX6_setText 44 = .ok (.getfield 10, 3) := by decide +kernel
theorem dX6_setText_47 : decode cX6_setText 47 = .ok (.getfield 27, 3) := by decide +kernel
theorem dX6_setText_50 : decode cX6_setText 50 = .ok (.iload_n 1, 1) := by decide +kernel
theorem dX6_setText_51 : decode cX6_setText 51 = .ok (.invokevirtual 163, 3) := by decide +kernel
theorem dX6_setText_54 : decode cX6_setText 54 = .ok (.iload_n 2, 1) := by decide +kernel
theorem dX6_setText_55 : decode cX6_setText 55 = .ok (.iconst 1, 1) := by decide +kernel
theorem dX6_setText_56 : decode cX6_setText 56 = .ok (.if_icmp .ne 7, 3) := by decide +kernel
theorem dX6_setText_59 : decode cX6_setText 59 = .ok (.iconst 1, 1) := by decide +kernel
theorem dX6_setText_60 : decode cX6_setText 60 = .ok (.goto 4, 3) := by decide +kernel
theorem dX6_setText_63 : decode cX6_setText 63 = .ok (.iconst 0, 1) := by decide +kernel
theorem dX6_setText_64 : decode cX6_setText 64 = .ok (.invokevirtual 167, 3) := by decide +kernel
theorem dX6_setText_67 : decode cX6_setText 67 = .ok (.aload_n 0, 1) := by decide +kernel
theorem dX6_setText_68 : decode cX6_setText 68 = .ok (.getfield 51, 3) := by decide +kernel
theorem dX6_setText_71 : decode cX6_setText 71 = .ok (.getfield 171, 3) := by decide +kernel
theorem dX6_setText_74 : decode cX6_setText 74 = .ok (.ireturn, 1) := by decide +kernel
abbrev rmX6_setText : Room := { frames := 67, cells := 2, slots := 12, locals := 1692 }
noncomputable def fX6_setText_64 (n : Nat) (Sh : Sp) (a0 : Nat) (a1 : Int32) (M : Mm) (t0 : Nat) (t1 : Int32) (t2 : Nat) (t3 : Int32) : Option ((String ⊕ Int32) × Mm) :=
  chk (Sh t0 = some (.inl 6)) <|
  (fX6_replaceWords n Sh M t0 t1 t2 t3).bind fun r1 =>
  tF r1 a0 5 fun b2 =>
  gI Sh r1 b2 5 1 fun x3 =>
  some (Sum.inr x3, r1)
noncomputable def fX6_setText_37 (n : Nat) (Sh : Sp) (a0 : Nat) (a1 : Int32) (M : Mm) (v2 : Int32) : Option ((String ⊕ Int32) × Mm) :=
  (fX6_keepRecord n Sh M a0).bind fun r4 =>
  tF r4 a0 0 fun b5 =>
  gF Sh r4 b5 3 0 fun b6 =>
  chk (Sh b6 = some (.inl 4)) <|
  (fX4_textOf n Sh r4 b6 a1).bind fun r7 =>
  if v2 = 1 then
    fX6_setText_64 n Sh a0 a1 r4 a0 a1 r7 1
  else
    fX6_setText_64 n Sh a0 a1 r4 a0 a1 r7 0
noncomputable def fX6_setText (n : Nat) (Sh : Sp) (M : Mm) (a0 : Nat) (a1 : Int32) : Option ((String ⊕ Int32) × Mm) :=
  xb (fX6_requireNode n Sh M a0 a1) (fun E => some (Sum.inl E, M)) <|
  tF M a0 0 fun b10 =>
  gF Sh M b10 3 0 fun b11 =>
  chk (Sh b11 = some (.inl 4)) <|
  (fX4_roleOf n Sh M b11 a1).bind fun r12 =>
  if r12 = 1 then
    fX6_setText_37 n Sh a0 a1 M r12
  else
    if r12 = 5 then
      fX6_setText_37 n Sh a0 a1 M r12
    else
      some (Sum.inl "java/lang/IllegalStateException", M)
set_option maxRecDepth 100000 in
set_option maxHeartbeats 4000000 in
theorem kX6_setText {l : Launch} {G : Gt} {n : Nat} {Sh : Sp} {M : Mm} {a0 : Nat} {a1 : Int32} (hT : Sh a0 = some (.inl 6)) (hfl : l.stackTraces = false) {r : ((String ⊕ Int32) × Mm)} (h : fX6_setText n Sh M a0 a1 = some r) : CtX l yX6_setText cX6_setText 3 (some .int) rmX6_setText G Sh M [.ref a0, .int a1] (rsI r.1) r.2 := by
  refine CtX.of (by decide) (Nat.le_of_ble_eq_true rfl) ?_
  intro p e s m args below meth c ls C hK hX hP hS hb hlk hr hno hl
  replace hl : lv_has ls 3 [(0, .ref a0), (1, .int a1)] := hl
  have J64 : ∀ (M : Mm) (t0 : Nat) (t1 : Int32) (t2 : Nat) (t3 : Int32) (H : Heap) (locs : List Loc) (ls : Array Slot), HM G Sh M H → SS G s s.heap.size H locs → lv_has ls 3 [(0, .ref a0), (1, .int a1)] → fX6_setText_64 n Sh a0 a1 M t0 t1 t2 t3 = some r → W p l e rmX6_setText s m args below meth c H locs 1 6 (vx_MQ below (QX G Sh (rsI r.1) r.2) (XX G Sh (rsI r.1) r.2) args s rmX6_setText.cells rmX6_setText.slots (AA G)) (F0 m 64 ls [.int t3, .ref t2, .int t1, .ref t0]) := by
    intro M t0 t1 t2 t3 H locs ls hP hS hl h
    unfold fX6_setText_64 at h
    obtain ⟨hs, h⟩ := chk_some h
    obtain ⟨r1, hc, h⟩ := bS h
    refine r_V0 C hK hX hb hP hS hl.1 (kX6_replaceWords (hs) hc) hs cl_6 wd_903 mo_X6_replaceWords wd_905 wd_14 ⟨Nat.le_of_ble_eq_true rfl, Nat.le_of_ble_eq_true rfl⟩ ⟨Nat.le_of_ble_eq_true rfl, Nat.le_of_ble_eq_true rfl⟩ rfl (rest := []) rfl (Nat.le_of_ble_eq_true rfl) dX6_setText_64 (fun H locs hP hS => ?_)
    refine lv_aload_n C.1 C.2.1 dX6_setText_67 rfl (lv_at hl 0 rfl) ?_
    refine r_tF C hK hP hT cl_6 (k := 5) (by decide) wd_269 rfl dX6_setText_68 h (fun b2 h => ?_)
    refine r_gIN C hK hP cl_5 (k := 1) (by decide) (hX.nw wd_127) rfl dX6_setText_71 h (fun x3 h => ?_)
    have e := Option.some.inj h
    refine W.widen (k := 2) (n := 12) (Nat.le_of_ble_eq_true rfl) (Nat.le_of_ble_eq_true rfl) ?_
    exact x_i C hlk hP hS hr e dX6_setText_74
  have J37 : ∀ (M : Mm) (v2 : Int32) (H : Heap) (locs : List Loc) (ls : Array Slot), HM G Sh M H → SS G s s.heap.size H locs → lv_has ls 3 [(0, .ref a0), (1, .int a1), (2, .int v2)] → fX6_setText_37 n Sh a0 a1 M v2 = some r → W p l e rmX6_setText s m args below meth c H locs 1 6 (vx_MQ below (QX G Sh (rsI r.1) r.2) (XX G Sh (rsI r.1) r.2) args s rmX6_setText.cells rmX6_setText.slots (AA G)) (F0 m 37 ls []) := by
    intro M v2 H locs ls hP hS hl h
    unfold fX6_setText_37 at h
    refine lv_aload_n C.1 C.2.1 dX6_setText_37 rfl (lv_at hl 0 rfl) ?_
    obtain ⟨r4, hc, h⟩ := bS h
    refine r_V0 C hK hX hb hP hS hl.1 (kX6_keepRecord (hT) hc) hT cl_6 wd_394 mo_X6_keepRecord wd_396 wd_3 ⟨Nat.le_of_ble_eq_true rfl, Nat.le_of_ble_eq_true rfl⟩ ⟨Nat.le_of_ble_eq_true rfl, Nat.le_of_ble_eq_true rfl⟩ rfl (rest := []) rfl (Nat.le_of_ble_eq_true rfl) dX6_setText_38 (fun H locs hP hS => ?_)
    refine lv_aload_n C.1 C.2.1 dX6_setText_41 rfl (lv_at hl 0 rfl) ?_
    refine lv_iload_n C.1 C.2.1 dX6_setText_42 rfl (lv_at hl 1 rfl) ?_
    refine lv_aload_n C.1 C.2.1 dX6_setText_43 rfl (lv_at hl 0 rfl) ?_
    refine r_tF C hK hP hT cl_6 (k := 0) (by decide) wd_264 rfl dX6_setText_44 h (fun b5 h => ?_)
    refine r_gFN C hK hP cl_3 (k := 0) (by decide) (hX.nw wd_209) rfl dX6_setText_47 h (fun b6 h => ?_)
    refine lv_iload_n C.1 C.2.1 dX6_setText_50 rfl (lv_at hl 1 rfl) ?_
    obtain ⟨hs, h⟩ := chk_some h
    obtain ⟨r7, hc, h⟩ := bS h
    refine r_V1 C hK hX hb hP hS hl.1 (kX4_textOf (hs) hc) hs cl_4 wd_902 mo_X4_textOf wd_471 wd_472 ⟨Nat.le_of_ble_eq_true rfl, Nat.le_of_ble_eq_true rfl⟩ ⟨Nat.le_of_ble_eq_true rfl, Nat.le_of_ble_eq_true rfl⟩ rfl (rest := [.int a1, .ref a0]) rfl (Nat.le_of_ble_eq_true rfl) dX6_setText_51 (fun H locs hP hS => ?_)
    refine lv_iload_n C.1 C.2.1 dX6_setText_54 rfl (lv_at hl 2 rfl) ?_
    refine lv_iconst (v := 1) C.1 C.2.1 dX6_setText_55 (by decide) ?_
    refine b_ine (tgt := 63) C dX6_setText_56 (by decide) h (fun h => ?_) (fun h => ?_)
    · refine lv_iconst (v := 1) C.1 C.2.1 dX6_setText_59 (by decide) ?_
      refine lv_goto (tgt := 64) C.1 C.2.1 dX6_setText_60 (by decide) ?_
      exact J64 (r4) (a0) (a1) (r7) (1) _ _ _ hP hS (lv_sub hl [0, 1] rfl) h
    · refine lv_iconst (v := 0) C.1 C.2.1 dX6_setText_63 (by decide) ?_
      exact J64 (r4) (a0) (a1) (r7) (0) _ _ _ hP hS (lv_sub hl [0, 1] rfl) h
  unfold fX6_setText at h
  refine lv_aload_n C.1 C.2.1 dX6_setText_0 rfl (lv_at hl 0 rfl) ?_
  refine lv_iload_n C.1 C.2.1 dX6_setText_1 rfl (lv_at hl 1 rfl) ?_
  obtain ⟨z9, hc, hE, h⟩ := xb_some h
  refine r_VX0 C hno hlk hK hX hb hP hS hl.1 (kX6_requireNode hT hfl hc) hT cl_6 wd_671 mo_X6_requireNode wd_673 wd_12 ⟨Nat.le_of_ble_eq_true rfl, Nat.le_of_ble_eq_true rfl⟩ ⟨Nat.le_of_ble_eq_true rfl, Nat.le_of_ble_eq_true rfl⟩ rfl (rest := []) rfl (Nat.le_of_ble_eq_true rfl) dX6_setText_2 (k1 := 1) (k2 := 6) ⟨Nat.le_of_ble_eq_true rfl, Nat.le_of_ble_eq_true rfl⟩ ⟨Nat.le_of_ble_eq_true rfl, Nat.le_of_ble_eq_true rfl⟩ (fun E q => by have e := Option.some.inj (hE E q); rw [← e]; exact ⟨rfl, rfl⟩) (fun H locs hz hP hS => ?_)
  replace h := h hz
  refine lv_aload_n C.1 C.2.1 dX6_setText_5 rfl (lv_at hl 0 rfl) ?_
  refine r_tF C hK hP hT cl_6 (k := 0) (by decide) wd_264 rfl dX6_setText_6 h (fun b10 h => ?_)
  refine r_gFN C hK hP cl_3 (k := 0) (by decide) (hX.nw wd_209) rfl dX6_setText_9 h (fun b11 h => ?_)
  refine lv_iload_n C.1 C.2.1 dX6_setText_12 rfl (lv_at hl 1 rfl) ?_
  obtain ⟨hs, h⟩ := chk_some h
  obtain ⟨r12, hc, h⟩ := bS h
  refine r_V1 C hK hX hb hP hS hl.1 (kX4_roleOf (hs) hc) hs cl_4 wd_900 mo_X4_roleOf wd_359 wd_360 ⟨Nat.le_of_ble_eq_true rfl, Nat.le_of_ble_eq_true rfl⟩ ⟨Nat.le_of_ble_eq_true rfl, Nat.le_of_ble_eq_true rfl⟩ rfl (rest := []) rfl (Nat.le_of_ble_eq_true rfl) dX6_setText_13 (fun H locs hP hS => ?_)
  refine lv_istore_n (lv' := [(2, .int r12), (0, .ref a0), (1, .int a1)]) C.1 C.2.1 dX6_setText_16 rfl hl (by decide) rfl (fun ls hl => ?_)
  refine lv_iload_n C.1 C.2.1 dX6_setText_17 rfl (lv_at hl 0 rfl) ?_
  refine lv_iconst (v := 1) C.1 C.2.1 dX6_setText_18 (by decide) ?_
  refine b_ieq (tgt := 37) C dX6_setText_19 (by decide) h (fun h => ?_) (fun h => ?_)
  · exact J37 (M) (r12) _ _ _ hP hS (lv_sub hl [1, 2, 0] rfl) h
  · refine lv_iload_n C.1 C.2.1 dX6_setText_22 rfl (lv_at hl 0 rfl) ?_
    refine lv_iconst (v := 5) C.1 C.2.1 dX6_setText_23 (by decide) ?_
    refine b_ieq (tgt := 37) C dX6_setText_24 (by decide) h (fun h => ?_) (fun h => ?_)
    · exact J37 (M) (r12) _ _ _ hP hS (lv_sub hl [1, 2, 0] rfl) h
    · have e := Option.some.inj h
      subst e
      exact x_new (rest := []) (text := "the node has no text of its own") C hfl hno hX hP hS hlk hl.1 (by decide +kernel) wd_765 wd_88 (by decide +kernel) xw_91 xg_91 dX6_setText_27 dX6_setText_30 dX6_setText_31 dX6_setText_33 dX6_setText_36 (by decide) (Nat.le_of_ble_eq_true rfl) (Nat.le_of_ble_eq_true rfl) (Nat.le_of_ble_eq_true rfl) (Nat.le_of_ble_eq_true rfl) (Nat.le_of_ble_eq_true rfl) rfl
theorem dX6_setLabel_0 : decode cX6_setLabel 0 = .ok (.aload_n 0, 1) := by decide +kernel
theorem dX6_setLabel_1 : decode cX6_setLabel 1 = .ok (.iload_n 1, 1) := by decide +kernel
theorem dX6_setLabel_2 : decode cX6_setLabel 2 = .ok (.invokevirtual 62, 3) := by decide +kernel
theorem dX6_setLabel_5 : decode cX6_setLabel 5 = .ok (.aload_n 0, 1) := by decide +kernel
theorem dX6_setLabel_6 : decode cX6_setLabel 6 = .ok (.invokevirtual 92, 3) := by decide +kernel
theorem dX6_setLabel_9 : decode cX6_setLabel 9 = .ok (.aload_n 0, 1) := by decide +kernel
theorem dX6_setLabel_10 : decode cX6_setLabel 10 = .ok (.iload_n 1, 1) := by decide +kernel
theorem dX6_setLabel_11 : decode cX6_setLabel 11 = .ok (.aload_n 0, 1) := by decide +kernel
theorem dX6_setLabel_12 : decode cX6_setLabel 12 = .ok (.getfield 10, 3) := by decide +kernel
theorem dX6_setLabel_15 : decode cX6_setLabel 15 = .ok (.getfield 27, 3) := by decide +kernel
theorem dX6_setLabel_18 : decode cX6_setLabel 18 = .ok (.iload_n 1, 1) := by decide +kernel
theorem dX6_setLabel_19 : decode cX6_setLabel 19 = .ok (.invokevirtual 174, 3) := by decide +kernel
theorem dX6_setLabel_22 : decode cX6_setLabel 22 = .ok (.aload_n 0, 1) := by decide +kernel
theorem dX6_setLabel_23 : decode cX6_setLabel 23 = .ok (.getfield 10, 3) := by decide +kernel
theorem dX6_setLabel_26 : decode cX6_setLabel 26 = .ok (.getfield 27, 3) := by decide +kernel
theorem dX6_setLabel_29 : decode cX6_setLabel 29 = .ok (.iload_n 1, 1) := by decide +kernel
theorem dX6_setLabel_30 : decode cX6_setLabel 30 = .ok (.invokevirtual 158, 3) := by decide +kernel
theorem dX6_setLabel_33 : decode cX6_setLabel 33 = .ok (.iconst 4, 1) := by decide +kernel
theorem dX6_setLabel_34 : decode cX6_setLabel 34 = .ok (.if_icmp .ne 7, 3) := by decide +kernel
theorem dX6_setLabel_37 : decode cX6_setLabel 37 = .ok (.iconst 1, 1) := by decide +kernel
theorem dX6_setLabel_38 : decode cX6_setLabel 38 = .ok (.goto 4, 3) := by decide +kernel
theorem dX6_setLabel_41 : decode cX6_setLabel 41 = .ok (.iconst 0, 1) := by decide +kernel
theorem dX6_setLabel_42 : decode cX6_setLabel 42 = .ok (.invokevirtual 167, 3) := by decide +kernel
theorem dX6_setLabel_45 : decode cX6_setLabel 45 = .ok (.aload_n 0, 1) := by decide +kernel
theorem dX6_setLabel_46 : decode cX6_setLabel 46 = .ok (.getfield 51, 3) := by decide +kernel
theorem dX6_setLabel_49 : decode cX6_setLabel 49 = .ok (.getfield 171, 3) := by decide +kernel
theorem dX6_setLabel_52 : decode cX6_setLabel 52 = .ok (.ireturn, 1) := by decide +kernel
abbrev rmX6_setLabel : Room := { frames := 67, cells := 1, slots := 6, locals := 1692 }
noncomputable def fX6_setLabel_42 (n : Nat) (Sh : Sp) (a0 : Nat) (a1 : Int32) (M : Mm) (t0 : Nat) (t1 : Int32) (t2 : Nat) (t3 : Int32) : Option ((String ⊕ Int32) × Mm) :=
  chk (Sh t0 = some (.inl 6)) <|
  (fX6_replaceWords n Sh M t0 t1 t2 t3).bind fun r1 =>
  tF r1 a0 5 fun b2 =>
  gI Sh r1 b2 5 1 fun x3 =>
  some (Sum.inr x3, r1)
noncomputable def fX6_setLabel (n : Nat) (Sh : Sp) (M : Mm) (a0 : Nat) (a1 : Int32) : Option ((String ⊕ Int32) × Mm) :=
  xb (fX6_requireNode n Sh M a0 a1) (fun E => some (Sum.inl E, M)) <|
  (fX6_keepRecord n Sh M a0).bind fun r6 =>
  tF r6 a0 0 fun b7 =>
  gF Sh r6 b7 3 0 fun b8 =>
  chk (Sh b8 = some (.inl 4)) <|
  (fX4_labelOf n Sh r6 b8 a1).bind fun r9 =>
  tF r6 a0 0 fun b10 =>
  gF Sh r6 b10 3 0 fun b11 =>
  chk (Sh b11 = some (.inl 4)) <|
  (fX4_roleOf n Sh r6 b11 a1).bind fun r12 =>
  if r12 = 4 then
    fX6_setLabel_42 n Sh a0 a1 r6 a0 a1 r9 1
  else
    fX6_setLabel_42 n Sh a0 a1 r6 a0 a1 r9 0
set_option maxRecDepth 100000 in
set_option maxHeartbeats 4000000 in
theorem kX6_setLabel {l : Launch} {G : Gt} {n : Nat} {Sh : Sp} {M : Mm} {a0 : Nat} {a1 : Int32} (hT : Sh a0 = some (.inl 6)) (hfl : l.stackTraces = false) {r : ((String ⊕ Int32) × Mm)} (h : fX6_setLabel n Sh M a0 a1 = some r) : CtX l yX6_setLabel cX6_setLabel 2 (some .int) rmX6_setLabel G Sh M [.ref a0, .int a1] (rsI r.1) r.2 := by
  refine CtX.of (by decide) (Nat.le_of_ble_eq_true rfl) ?_
  intro p e s m args below meth c ls C hK hX hP hS hb hlk hr hno hl
  replace hl : lv_has ls 2 [(0, .ref a0), (1, .int a1)] := hl
  have J42 : ∀ (M : Mm) (t0 : Nat) (t1 : Int32) (t2 : Nat) (t3 : Int32) (H : Heap) (locs : List Loc) (ls : Array Slot), HM G Sh M H → SS G s s.heap.size H locs → lv_has ls 2 [(0, .ref a0), (1, .int a1)] → fX6_setLabel_42 n Sh a0 a1 M t0 t1 t2 t3 = some r → W p l e rmX6_setLabel s m args below meth c H locs 1 6 (vx_MQ below (QX G Sh (rsI r.1) r.2) (XX G Sh (rsI r.1) r.2) args s rmX6_setLabel.cells rmX6_setLabel.slots (AA G)) (F0 m 42 ls [.int t3, .ref t2, .int t1, .ref t0]) := by
    intro M t0 t1 t2 t3 H locs ls hP hS hl h
    unfold fX6_setLabel_42 at h
    obtain ⟨hs, h⟩ := chk_some h
    obtain ⟨r1, hc, h⟩ := bS h
    refine r_V0 C hK hX hb hP hS hl.1 (kX6_replaceWords (hs) hc) hs cl_6 wd_903 mo_X6_replaceWords wd_905 wd_14 ⟨Nat.le_of_ble_eq_true rfl, Nat.le_of_ble_eq_true rfl⟩ ⟨Nat.le_of_ble_eq_true rfl, Nat.le_of_ble_eq_true rfl⟩ rfl (rest := []) rfl (Nat.le_of_ble_eq_true rfl) dX6_setLabel_42 (fun H locs hP hS => ?_)
    refine lv_aload_n C.1 C.2.1 dX6_setLabel_45 rfl (lv_at hl 0 rfl) ?_
    refine r_tF C hK hP hT cl_6 (k := 5) (by decide) wd_269 rfl dX6_setLabel_46 h (fun b2 h => ?_)
    refine r_gIN C hK hP cl_5 (k := 1) (by decide) (hX.nw wd_127) rfl dX6_setLabel_49 h (fun x3 h => ?_)
    have e := Option.some.inj h
    exact x_i C hlk hP hS hr e dX6_setLabel_52
  unfold fX6_setLabel at h
  refine lv_aload_n C.1 C.2.1 dX6_setLabel_0 rfl (lv_at hl 0 rfl) ?_
  refine lv_iload_n C.1 C.2.1 dX6_setLabel_1 rfl (lv_at hl 1 rfl) ?_
  obtain ⟨z5, hc, hE, h⟩ := xb_some h
  refine r_VX0 C hno hlk hK hX hb hP hS hl.1 (kX6_requireNode hT hfl hc) hT cl_6 wd_671 mo_X6_requireNode wd_673 wd_12 ⟨Nat.le_of_ble_eq_true rfl, Nat.le_of_ble_eq_true rfl⟩ ⟨Nat.le_of_ble_eq_true rfl, Nat.le_of_ble_eq_true rfl⟩ rfl (rest := []) rfl (Nat.le_of_ble_eq_true rfl) dX6_setLabel_2 (k1 := 1) (k2 := 6) ⟨Nat.le_of_ble_eq_true rfl, Nat.le_of_ble_eq_true rfl⟩ ⟨Nat.le_of_ble_eq_true rfl, Nat.le_of_ble_eq_true rfl⟩ (fun E q => by have e := Option.some.inj (hE E q); rw [← e]; exact ⟨rfl, rfl⟩) (fun H locs hz hP hS => ?_)
  replace h := h hz
  refine lv_aload_n C.1 C.2.1 dX6_setLabel_5 rfl (lv_at hl 0 rfl) ?_
  obtain ⟨r6, hc, h⟩ := bS h
  refine r_V0 C hK hX hb hP hS hl.1 (kX6_keepRecord (hT) hc) hT cl_6 wd_394 mo_X6_keepRecord wd_396 wd_3 ⟨Nat.le_of_ble_eq_true rfl, Nat.le_of_ble_eq_true rfl⟩ ⟨Nat.le_of_ble_eq_true rfl, Nat.le_of_ble_eq_true rfl⟩ rfl (rest := []) rfl (Nat.le_of_ble_eq_true rfl) dX6_setLabel_6 (fun H locs hP hS => ?_)
  refine lv_aload_n C.1 C.2.1 dX6_setLabel_9 rfl (lv_at hl 0 rfl) ?_
  refine lv_iload_n C.1 C.2.1 dX6_setLabel_10 rfl (lv_at hl 1 rfl) ?_
  refine lv_aload_n C.1 C.2.1 dX6_setLabel_11 rfl (lv_at hl 0 rfl) ?_
  refine r_tF C hK hP hT cl_6 (k := 0) (by decide) wd_264 rfl dX6_setLabel_12 h (fun b7 h => ?_)
  refine r_gFN C hK hP cl_3 (k := 0) (by decide) (hX.nw wd_209) rfl dX6_setLabel_15 h (fun b8 h => ?_)
  refine lv_iload_n C.1 C.2.1 dX6_setLabel_18 rfl (lv_at hl 1 rfl) ?_
  obtain ⟨hs, h⟩ := chk_some h
  obtain ⟨r9, hc, h⟩ := bS h
  refine r_V1 C hK hX hb hP hS hl.1 (kX4_labelOf (hs) hc) hs cl_4 wd_919 mo_X4_labelOf wd_491 wd_492 ⟨Nat.le_of_ble_eq_true rfl, Nat.le_of_ble_eq_true rfl⟩ ⟨Nat.le_of_ble_eq_true rfl, Nat.le_of_ble_eq_true rfl⟩ rfl (rest := [.int a1, .ref a0]) rfl (Nat.le_of_ble_eq_true rfl) dX6_setLabel_19 (fun H locs hP hS => ?_)
  refine lv_aload_n C.1 C.2.1 dX6_setLabel_22 rfl (lv_at hl 0 rfl) ?_
  refine r_tF C hK hP hT cl_6 (k := 0) (by decide) wd_264 rfl dX6_setLabel_23 h (fun b10 h => ?_)
  refine r_gFN C hK hP cl_3 (k := 0) (by decide) (hX.nw wd_209) rfl dX6_setLabel_26 h (fun b11 h => ?_)
  refine lv_iload_n C.1 C.2.1 dX6_setLabel_29 rfl (lv_at hl 1 rfl) ?_
  obtain ⟨hs, h⟩ := chk_some h
  obtain ⟨r12, hc, h⟩ := bS h
  refine r_V1 C hK hX hb hP hS hl.1 (kX4_roleOf (hs) hc) hs cl_4 wd_900 mo_X4_roleOf wd_359 wd_360 ⟨Nat.le_of_ble_eq_true rfl, Nat.le_of_ble_eq_true rfl⟩ ⟨Nat.le_of_ble_eq_true rfl, Nat.le_of_ble_eq_true rfl⟩ rfl (rest := [.ref r9, .int a1, .ref a0]) rfl (Nat.le_of_ble_eq_true rfl) dX6_setLabel_30 (fun H locs hP hS => ?_)
  refine lv_iconst (v := 4) C.1 C.2.1 dX6_setLabel_33 (by decide) ?_
  refine b_ine (tgt := 41) C dX6_setLabel_34 (by decide) h (fun h => ?_) (fun h => ?_)
  · refine lv_iconst (v := 1) C.1 C.2.1 dX6_setLabel_37 (by decide) ?_
    refine lv_goto (tgt := 42) C.1 C.2.1 dX6_setLabel_38 (by decide) ?_
    exact J42 (r6) (a0) (a1) (r9) (1) _ _ _ hP hS (lv_sub hl [0, 1] rfl) h
  · refine lv_iconst (v := 0) C.1 C.2.1 dX6_setLabel_41 (by decide) ?_
    exact J42 (r6) (a0) (a1) (r9) (0) _ _ _ hP hS (lv_sub hl [0, 1] rfl) h
theorem dX6_setLabelledBy_0 : decode cX6_setLabelledBy 0 = .ok (.aload_n 0, 1) := by decide +kernel
theorem dX6_setLabelledBy_1 : decode cX6_setLabelledBy 1 = .ok (.iload_n 1, 1) := by decide +kernel
theorem dX6_setLabelledBy_2 : decode cX6_setLabelledBy 2 = .ok (.invokevirtual 62, 3) := by decide +kernel
theorem dX6_setLabelledBy_5 : decode cX6_setLabelledBy 5 = .ok (.iload_n 2, 1) := by decide +kernel
theorem dX6_setLabelledBy_6 : decode cX6_setLabelledBy 6 = .ok (.iconst (-1), 1) := by decide +kernel
theorem dX6_setLabelledBy_7 : decode cX6_setLabelledBy 7 = .ok (.if_icmp .eq 8, 3) := by decide +kernel
theorem dX6_setLabelledBy_10 : decode cX6_setLabelledBy 10 = .ok (.aload_n 0, 1) := by decide +kernel
theorem dX6_setLabelledBy_11 : decode cX6_setLabelledBy 11 = .ok (.iload_n 2, 1) := by decide +kernel
theorem dX6_setLabelledBy_12 : decode cX6_setLabelledBy 12 = .ok (.invokevirtual 62, 3) := by decide +kernel
theorem dX6_setLabelledBy_15 : decode cX6_setLabelledBy 15 = .ok (.iload_n 2, 1) := by decide +kernel
theorem dX6_setLabelledBy_16 : decode cX6_setLabelledBy 16 = .ok (.iload_n 1, 1) := by decide +kernel
theorem dX6_setLabelledBy_17 : decode cX6_setLabelledBy 17 = .ok (.if_icmp .ne 13, 3) := by decide +kernel
theorem dX6_setLabelledBy_20 : decode cX6_setLabelledBy 20 = .ok (.new 78, 3) := by decide +kernel
theorem dX6_setLabelledBy_23 : decode cX6_setLabelledBy 23 = .ok (.dup, 1) := by decide +kernel
theorem dX6_setLabelledBy_24 : decode cX6_setLabelledBy 24 = .ok (.ldc 177, 2) := by decide +kernel
theorem dX6_setLabelledBy_26 : decode cX6_setLabelledBy 26 = .ok (.invokespecial 82, 3) := by decide +kernel
theorem dX6_setLabelledBy_29 : decode cX6_setLabelledBy 29 = .ok (.athrow, 1) := by decide +kernel
theorem dX6_setLabelledBy_30 : decode cX6_setLabelledBy 30 = .ok (.aload_n 0, 1) := by decide +kernel
theorem dX6_setLabelledBy_31 : decode cX6_setLabelledBy 31 = .ok (.invokevirtual 92, 3) := by decide +kernel
theorem dX6_setLabelledBy_34 : decode cX6_setLabelledBy 34 = .ok (.aload_n 0, 1) := by decide +kernel
theorem dX6_setLabelledBy_35 : decode cX6_setLabelledBy 35 = .ok (.getfield 10, 3) := by decide +kernel
theorem dX6_setLabelledBy_38 : decode cX6_setLabelledBy 38 = .ok (.getfield 27, 3) := by decide +kernel
theorem dX6_setLabelledBy_41 : decode cX6_setLabelledBy 41 = .ok (.iload_n 1, 1) := by decide +kernel
theorem dX6_setLabelledBy_42 : decode cX6_setLabelledBy 42 = .ok (.invokevirtual 179, 3) := by decide +kernel
theorem dX6_setLabelledBy_45 : decode cX6_setLabelledBy 45 = .ok (.istore_n 3, 1) := by decide +kernel
theorem dX6_setLabelledBy_46 : decode cX6_setLabelledBy 46 = .ok (.aload_n 0, 1) := by decide +kernel
theorem dX6_setLabelledBy_47 : decode cX6_setLabelledBy 47 = .ok (.getfield 10, 3) := by decide +kernel
theorem dX6_setLabelledBy_50 : decode cX6_setLabelledBy 50 = .ok (.getfield 27, 3) := by decide +kernel
theorem dX6_setLabelledBy_53 : decode cX6_setLabelledBy 53 = .ok (.iload_n 1, 1) := by decide +kernel
theorem dX6_setLabelledBy_54 : decode cX6_setLabelledBy 54 = .ok (.iload_n 2, 1) := by decide +kernel
theorem dX6_setLabelledBy_55 : decode cX6_setLabelledBy 55 = .ok (.invokevirtual 182, 3) := by decide +kernel
theorem dX6_setLabelledBy_58 : decode cX6_setLabelledBy 58 = .ok (.iload_n 3, 1) := by decide +kernel
theorem dX6_setLabelledBy_59 : decode cX6_setLabelledBy 59 = .ok (.ireturn, 1) := by decide +kernel
abbrev rmX6_setLabelledBy : Room := { frames := 7, cells := 3, slots := 18, locals := 126 }
noncomputable def fX6_setLabelledBy_15 (n : Nat) (Sh : Sp) (a0 : Nat) (a1 : Int32) (a2 : Int32) (M : Mm) : Option ((String ⊕ Int32) × Mm) :=
  if a2 = a1 then
    some (Sum.inl "java/lang/IllegalArgumentException", M)
  else
    (fX6_keepRecord n Sh M a0).bind fun r1 =>
    tF r1 a0 0 fun b2 =>
    gF Sh r1 b2 3 0 fun b3 =>
    chk (Sh b3 = some (.inl 4)) <|
    (fX4_labellerOf n Sh r1 b3 a1).bind fun r4 =>
    tF r1 a0 0 fun b5 =>
    gF Sh r1 b5 3 0 fun b6 =>
    chk (Sh b6 = some (.inl 4)) <|
    (fX4_labelBy n Sh r1 b6 a1 a2).bind fun r7 =>
    some (Sum.inr r4, r7)
noncomputable def fX6_setLabelledBy (n : Nat) (Sh : Sp) (M : Mm) (a0 : Nat) (a1 : Int32) (a2 : Int32) : Option ((String ⊕ Int32) × Mm) :=
  xb (fX6_requireNode n Sh M a0 a1) (fun E => some (Sum.inl E, M)) <|
  if a2 = (-1) then
    fX6_setLabelledBy_15 n Sh a0 a1 a2 M
  else
    xb (fX6_requireNode n Sh M a0 a2) (fun E => some (Sum.inl E, M)) <|
    fX6_setLabelledBy_15 n Sh a0 a1 a2 M
set_option maxRecDepth 100000 in
set_option maxHeartbeats 4000000 in
theorem kX6_setLabelledBy {l : Launch} {G : Gt} {n : Nat} {Sh : Sp} {M : Mm} {a0 : Nat} {a1 : Int32} {a2 : Int32} (hT : Sh a0 = some (.inl 6)) (hfl : l.stackTraces = false) {r : ((String ⊕ Int32) × Mm)} (h : fX6_setLabelledBy n Sh M a0 a1 a2 = some r) : CtX l yX6_setLabelledBy cX6_setLabelledBy 4 (some .int) rmX6_setLabelledBy G Sh M [.ref a0, .int a1, .int a2] (rsI r.1) r.2 := by
  refine CtX.of (by decide) (Nat.le_of_ble_eq_true rfl) ?_
  intro p e s m args below meth c ls C hK hX hP hS hb hlk hr hno hl
  replace hl : lv_has ls 4 [(0, .ref a0), (1, .int a1), (2, .int a2)] := hl
  have J15 : ∀ (M : Mm) (H : Heap) (locs : List Loc) (ls : Array Slot), HM G Sh M H → SS G s s.heap.size H locs → lv_has ls 4 [(0, .ref a0), (1, .int a1), (2, .int a2)] → fX6_setLabelledBy_15 n Sh a0 a1 a2 M = some r → W p l e rmX6_setLabelledBy s m args below meth c H locs 2 12 (vx_MQ below (QX G Sh (rsI r.1) r.2) (XX G Sh (rsI r.1) r.2) args s rmX6_setLabelledBy.cells rmX6_setLabelledBy.slots (AA G)) (F0 m 15 ls []) := by
    intro M H locs ls hP hS hl h
    unfold fX6_setLabelledBy_15 at h
    refine lv_iload_n C.1 C.2.1 dX6_setLabelledBy_15 rfl (lv_at hl 2 rfl) ?_
    refine lv_iload_n C.1 C.2.1 dX6_setLabelledBy_16 rfl (lv_at hl 1 rfl) ?_
    refine b_ine (tgt := 30) C dX6_setLabelledBy_17 (by decide) h (fun h => ?_) (fun h => ?_)
    · have e := Option.some.inj h
      subst e
      exact x_new (rest := []) (text := "a node does not label itself") C hfl hno hX hP hS hlk hl.1 (by decide +kernel) wd_745 wd_87 (by decide +kernel) xw_82 xg_82 dX6_setLabelledBy_20 dX6_setLabelledBy_23 dX6_setLabelledBy_24 dX6_setLabelledBy_26 dX6_setLabelledBy_29 (by decide) (Nat.le_of_ble_eq_true rfl) (Nat.le_of_ble_eq_true rfl) (Nat.le_of_ble_eq_true rfl) (Nat.le_of_ble_eq_true rfl) (Nat.le_of_ble_eq_true rfl) rfl
    · refine lv_aload_n C.1 C.2.1 dX6_setLabelledBy_30 rfl (lv_at hl 0 rfl) ?_
      obtain ⟨r1, hc, h⟩ := bS h
      refine r_V0 C hK hX hb hP hS hl.1 (kX6_keepRecord (hT) hc) hT cl_6 wd_394 mo_X6_keepRecord wd_396 wd_3 ⟨Nat.le_of_ble_eq_true rfl, Nat.le_of_ble_eq_true rfl⟩ ⟨Nat.le_of_ble_eq_true rfl, Nat.le_of_ble_eq_true rfl⟩ rfl (rest := []) rfl (Nat.le_of_ble_eq_true rfl) dX6_setLabelledBy_31 (fun H locs hP hS => ?_)
      refine lv_aload_n C.1 C.2.1 dX6_setLabelledBy_34 rfl (lv_at hl 0 rfl) ?_
      refine r_tF C hK hP hT cl_6 (k := 0) (by decide) wd_264 rfl dX6_setLabelledBy_35 h (fun b2 h => ?_)
      refine r_gFN C hK hP cl_3 (k := 0) (by decide) (hX.nw wd_209) rfl dX6_setLabelledBy_38 h (fun b3 h => ?_)
      refine lv_iload_n C.1 C.2.1 dX6_setLabelledBy_41 rfl (lv_at hl 1 rfl) ?_
      obtain ⟨hs, h⟩ := chk_some h
      obtain ⟨r4, hc, h⟩ := bS h
      refine r_V1 C hK hX hb hP hS hl.1 (kX4_labellerOf (hs) hc) hs cl_4 wd_928 mo_X4_labellerOf wd_463 wd_464 ⟨Nat.le_of_ble_eq_true rfl, Nat.le_of_ble_eq_true rfl⟩ ⟨Nat.le_of_ble_eq_true rfl, Nat.le_of_ble_eq_true rfl⟩ rfl (rest := []) rfl (Nat.le_of_ble_eq_true rfl) dX6_setLabelledBy_42 (fun H locs hP hS => ?_)
      refine lv_istore_n (lv' := [(3, .int r4), (0, .ref a0), (1, .int a1), (2, .int a2)]) C.1 C.2.1 dX6_setLabelledBy_45 rfl hl (by decide) rfl (fun ls hl => ?_)
      refine lv_aload_n C.1 C.2.1 dX6_setLabelledBy_46 rfl (lv_at hl 1 rfl) ?_
      refine r_tF C hK hP hT cl_6 (k := 0) (by decide) wd_264 rfl dX6_setLabelledBy_47 h (fun b5 h => ?_)
      refine r_gFN C hK hP cl_3 (k := 0) (by decide) (hX.nw wd_209) rfl dX6_setLabelledBy_50 h (fun b6 h => ?_)
      refine lv_iload_n C.1 C.2.1 dX6_setLabelledBy_53 rfl (lv_at hl 2 rfl) ?_
      refine lv_iload_n C.1 C.2.1 dX6_setLabelledBy_54 rfl (lv_at hl 3 rfl) ?_
      obtain ⟨hs, h⟩ := chk_some h
      obtain ⟨r7, hc, h⟩ := bS h
      refine r_V0 C hK hX hb hP hS hl.1 (kX4_labelBy (hs) hc) hs cl_4 wd_929 mo_X4_labelBy wd_930 wd_931 ⟨Nat.le_of_ble_eq_true rfl, Nat.le_of_ble_eq_true rfl⟩ ⟨Nat.le_of_ble_eq_true rfl, Nat.le_of_ble_eq_true rfl⟩ rfl (rest := []) rfl (Nat.le_of_ble_eq_true rfl) dX6_setLabelledBy_55 (fun H locs hP hS => ?_)
      refine lv_iload_n C.1 C.2.1 dX6_setLabelledBy_58 rfl (lv_at hl 0 rfl) ?_
      have e := Option.some.inj h
      refine W.widen (k := 3) (n := 18) (Nat.le_of_ble_eq_true rfl) (Nat.le_of_ble_eq_true rfl) ?_
      exact x_i C hlk hP hS hr e dX6_setLabelledBy_59
  unfold fX6_setLabelledBy at h
  refine lv_aload_n C.1 C.2.1 dX6_setLabelledBy_0 rfl (lv_at hl 0 rfl) ?_
  refine lv_iload_n C.1 C.2.1 dX6_setLabelledBy_1 rfl (lv_at hl 1 rfl) ?_
  obtain ⟨z9, hc, hE, h⟩ := xb_some h
  refine r_VX0 C hno hlk hK hX hb hP hS hl.1 (kX6_requireNode hT hfl hc) hT cl_6 wd_671 mo_X6_requireNode wd_673 wd_12 ⟨Nat.le_of_ble_eq_true rfl, Nat.le_of_ble_eq_true rfl⟩ ⟨Nat.le_of_ble_eq_true rfl, Nat.le_of_ble_eq_true rfl⟩ rfl (rest := []) rfl (Nat.le_of_ble_eq_true rfl) dX6_setLabelledBy_2 (k1 := 1) (k2 := 6) ⟨Nat.le_of_ble_eq_true rfl, Nat.le_of_ble_eq_true rfl⟩ ⟨Nat.le_of_ble_eq_true rfl, Nat.le_of_ble_eq_true rfl⟩ (fun E q => by have e := Option.some.inj (hE E q); rw [← e]; exact ⟨rfl, rfl⟩) (fun H locs hz hP hS => ?_)
  replace h := h hz
  refine lv_iload_n C.1 C.2.1 dX6_setLabelledBy_5 rfl (lv_at hl 2 rfl) ?_
  refine lv_iconst (v := (-1)) C.1 C.2.1 dX6_setLabelledBy_6 (by decide) ?_
  refine b_ieq (tgt := 15) C dX6_setLabelledBy_7 (by decide) h (fun h => ?_) (fun h => ?_)
  · refine W.widen (k := 2) (n := 12) (Nat.le_of_ble_eq_true rfl) (Nat.le_of_ble_eq_true rfl) ?_
    exact J15 (M) _ _ _ hP hS (lv_sub hl [0, 1, 2] rfl) h
  · refine lv_aload_n C.1 C.2.1 dX6_setLabelledBy_10 rfl (lv_at hl 0 rfl) ?_
    refine lv_iload_n C.1 C.2.1 dX6_setLabelledBy_11 rfl (lv_at hl 2 rfl) ?_
    obtain ⟨z11, hc, hE, h⟩ := xb_some h
    refine r_VX0 C hno hlk hK hX hb hP hS hl.1 (kX6_requireNode hT hfl hc) hT cl_6 wd_671 mo_X6_requireNode wd_673 wd_12 ⟨Nat.le_of_ble_eq_true rfl, Nat.le_of_ble_eq_true rfl⟩ ⟨Nat.le_of_ble_eq_true rfl, Nat.le_of_ble_eq_true rfl⟩ rfl (rest := []) rfl (Nat.le_of_ble_eq_true rfl) dX6_setLabelledBy_12 (k1 := 2) (k2 := 12) ⟨Nat.le_of_ble_eq_true rfl, Nat.le_of_ble_eq_true rfl⟩ ⟨Nat.le_of_ble_eq_true rfl, Nat.le_of_ble_eq_true rfl⟩ (fun E q => by have e := Option.some.inj (hE E q); rw [← e]; exact ⟨rfl, rfl⟩) (fun H locs hz hP hS => ?_)
    replace h := h hz
    exact J15 (M) _ _ _ hP hS (lv_sub hl [0, 1, 2] rfl) h
theorem dX6_collectWords_0 : decode cX6_collectWords 0 = .ok (.aload_n 0, 1) := by decide +kernel
theorem dX6_collectWords_1 : decode cX6_collectWords 1 = .ok (.getfield 55, 3) := by decide +kernel
theorem dX6_collectWords_4 : decode cX6_collectWords 4 = .ok (.invokevirtual 301, 3) := by decide +kernel
theorem dX6_collectWords_7 : decode cX6_collectWords 7 = .ok (.iload_n 2, 1) := by decide +kernel
theorem dX6_collectWords_8 : decode cX6_collectWords 8 = .ok (.tableswitch 132 0 4 #[36, 57, 78, 96, 114], 36) := by decide +kernel
theorem dX6_collectWords_44 : decode cX6_collectWords 44 = .ok (.aload_n 0, 1) := by decide +kernel
theorem dX6_collectWords_45 : decode cX6_collectWords 45 = .ok (.getfield 55, 3) := by decide +kernel
theorem dX6_collectWords_48 : decode cX6_collectWords 48 = .ok (.aload_n 0, 1) := by decide +kernel
theorem dX6_collectWords_49 : decode cX6_collectWords 49 = .ok (.getfield 10, 3) := by decide +kernel
theorem dX6_collectWords_52 : decode cX6_collectWords 52 = .ok (.getfield 27, 3) := by decide +kernel
theorem dX6_collectWords_55 : decode cX6_collectWords 55 = .ok (.iload_n 1, 1) := by decide +kernel
theorem dX6_collectWords_56 : decode cX6_collectWords 56 = .ok (.invokevirtual 163, 3) := by decide +kernel
theorem dX6_collectWords_59 : decode cX6_collectWords 59 = .ok (.invokevirtual 350, 3) := by decide +kernel
theorem dX6_collectWords_62 : decode cX6_collectWords 62 = .ok (.goto 93, 3) := by decide +kernel
theorem dX6_collectWords_65 : decode cX6_collectWords 65 = .ok (.aload_n 0, 1) := by decide +kernel
theorem dX6_collectWords_66 : decode cX6_collectWords 66 = .ok (.getfield 55, 3) := by decide +kernel
theorem dX6_collectWords_69 : decode cX6_collectWords 69 = .ok (.aload_n 0, 1) := by decide +kernel
theorem dX6_collectWords_70 : decode cX6_collectWords 70 = .ok (.getfield 10, 3) := by decide +kernel
theorem dX6_collectWords_73 : decode cX6_collectWords 73 = .ok (.getfield 27, 3) := by decide +kernel
theorem dX6_collectWords_76 : decode cX6_collectWords 76 = .ok (.iload_n 1, 1) := by decide +kernel
theorem dX6_collectWords_77 : decode cX6_collectWords 77 = .ok (.invokevirtual 174, 3) := by decide +kernel
theorem dX6_collectWords_80 : decode cX6_collectWords 80 = .ok (.invokevirtual 350, 3) := by decide +kernel
theorem dX6_collectWords_83 : decode cX6_collectWords 83 = .ok (.goto 72, 3) := by decide +kernel
theorem dX6_collectWords_86 : decode cX6_collectWords 86 = .ok (.aload_n 0, 1) := by decide +kernel
theorem dX6_collectWords_87 : decode cX6_collectWords 87 = .ok (.getfield 10, 3) := by decide +kernel
theorem dX6_collectWords_90 : decode cX6_collectWords 90 = .ok (.getfield 27, 3) := by decide +kernel
theorem dX6_collectWords_93 : decode cX6_collectWords 93 = .ok (.iload_n 1, 1) := by decide +kernel
theorem dX6_collectWords_94 : decode cX6_collectWords 94 = .ok (.aload_n 0, 1) := by decide +kernel
theorem dX6_collectWords_95 : decode cX6_collectWords 95 = .ok (.getfield 55, 3) := by decide +kernel
theorem dX6_collectWords_98 : decode cX6_collectWords 98 = .ok (.invokevirtual 353, 3) := by decide +kernel
theorem dX6_collectWords_101 : decode cX6_collectWords 101 = .ok (.goto 54, 3) := by decide +kernel
theorem dX6_collectWords_104 : decode cX6_collectWords 104 = .ok (.aload_n 0, 1) := by decide +kernel
theorem dX6_collectWords_105 : decode cX6_collectWords 105 = .ok (.getfield 10, 3) := by decide +kernel
theorem dX6_collectWords_108 : decode cX6_collectWords 108 = .ok (.getfield 27, 3) := by decide +kernel
theorem dX6_collectWords_111 : decode cX6_collectWords 111 = .ok (.iload_n 1, 1) := by decide +kernel
theorem dX6_collectWords_112 : decode cX6_collectWords 112 = .ok (.aload_n 0, 1) := by decide +kernel
theorem dX6_collectWords_113 : decode cX6_collectWords 113 = .ok (.getfield 55, 3) := by decide +kernel
theorem dX6_collectWords_116 : decode cX6_collectWords 116 = .ok (.invokevirtual 356, 3) := by decide +kernel
theorem dX6_collectWords_119 : decode cX6_collectWords 119 = .ok (.goto 36, 3) := by decide +kernel
theorem dX6_collectWords_122 : decode cX6_collectWords 122 = .ok (.aload_n 0, 1) := by decide +kernel
theorem dX6_collectWords_123 : decode cX6_collectWords 123 = .ok (.getfield 10, 3) := by decide +kernel
theorem dX6_collectWords_126 : decode cX6_collectWords 126 = .ok (.getfield 27, 3) := by decide +kernel
theorem dX6_collectWords_129 : decode cX6_collectWords 129 = .ok (.iload_n 1, 1) := by decide +kernel
theorem dX6_collectWords_130 : decode cX6_collectWords 130 = .ok (.aload_n 0, 1) := by decide +kernel
theorem dX6_collectWords_131 : decode cX6_collectWords 131 = .ok (.getfield 55, 3) := by decide +kernel
theorem dX6_collectWords_134 : decode cX6_collectWords 134 = .ok (.invokevirtual 359, 3) := by decide +kernel
theorem dX6_collectWords_137 : decode cX6_collectWords 137 = .ok (.goto 18, 3) := by decide +kernel
theorem dX6_collectWords_140 : decode cX6_collectWords 140 = .ok (.aload_n 0, 1) := by decide +kernel
theorem dX6_collectWords_141 : decode cX6_collectWords 141 = .ok (.getfield 10, 3) := by decide +kernel
theorem dX6_collectWords_144 : decode cX6_collectWords 144 = .ok (.getfield 27, 3) := by decide +kernel
theorem dX6_collectWords_147 : decode cX6_collectWords 147 = .ok (.iload_n 1, 1) := by decide +kernel
theorem dX6_collectWords_148 : decode cX6_collectWords 148 = .ok (.aload_n 0, 1) := by decide +kernel
theorem dX6_collectWords_149 : decode cX6_collectWords 149 = .ok (.getfield 55, 3) := by decide +kernel
theorem dX6_collectWords_152 : decode cX6_collectWords 152 = .ok (.invokevirtual 362, 3) := by decide +kernel
theorem dX6_collectWords_155 : decode cX6_collectWords 155 = .ok (.return_, 1) := by decide +kernel
abbrev rmX6_collectWords : Room := { frames := 65, cells := 0, slots := 0, locals := 1644 }
noncomputable def fX6_collectWords (n : Nat) (Sh : Sp) (M : Mm) (a0 : Nat) (a1 : Int32) (a2 : Int32) : Option Mm :=
  tF M a0 6 fun b1 =>
  chk (Sh b1 = some (.inl 5)) <|
  (fX5_empty n Sh M b1).bind fun r2 =>
  if a2 = 0 then
    tF r2 a0 6 fun b3 =>
    tF r2 a0 0 fun b4 =>
    gF Sh r2 b4 3 0 fun b5 =>
    chk (Sh b5 = some (.inl 4)) <|
    (fX4_textOf n Sh r2 b5 a1).bind fun r6 =>
    chk (Sh b3 = some (.inl 5)) <|
    (fX5_join n Sh r2 b3 r6).bind fun r7 =>
    some r7
  else if a2 = 1 then
    tF r2 a0 6 fun b8 =>
    tF r2 a0 0 fun b9 =>
    gF Sh r2 b9 3 0 fun b10 =>
    chk (Sh b10 = some (.inl 4)) <|
    (fX4_labelOf n Sh r2 b10 a1).bind fun r11 =>
    chk (Sh b8 = some (.inl 5)) <|
    (fX5_join n Sh r2 b8 r11).bind fun r12 =>
    some r12
  else if a2 = 2 then
    tF r2 a0 0 fun b13 =>
    gF Sh r2 b13 3 0 fun b14 =>
    tF r2 a0 6 fun b15 =>
    chk (Sh b14 = some (.inl 4)) <|
    (fX4_joinName n Sh r2 b14 a1 b15).bind fun r16 =>
    some r16
  else if a2 = 3 then
    tF r2 a0 0 fun b17 =>
    gF Sh r2 b17 3 0 fun b18 =>
    tF r2 a0 6 fun b19 =>
    chk (Sh b18 = some (.inl 4)) <|
    (fX4_joinPhrase n Sh r2 b18 a1 b19).bind fun r20 =>
    some r20
  else if a2 = 4 then
    tF r2 a0 0 fun b21 =>
    gF Sh r2 b21 3 0 fun b22 =>
    tF r2 a0 6 fun b23 =>
    chk (Sh b22 = some (.inl 4)) <|
    (fX4_joinContent n Sh r2 b22 a1 b23).bind fun r24 =>
    some r24
  else
    tF r2 a0 0 fun b25 =>
    gF Sh r2 b25 3 0 fun b26 =>
    tF r2 a0 6 fun b27 =>
    chk (Sh b26 = some (.inl 4)) <|
    (fX4_joinPart n Sh r2 b26 a1 b27).bind fun r28 =>
    some r28
set_option maxRecDepth 100000 in
set_option maxHeartbeats 4000000 in
theorem kX6_collectWords {l : Launch} {G : Gt} {n : Nat} {Sh : Sp} {M : Mm} {a0 : Nat} {a1 : Int32} {a2 : Int32} (hT : Sh a0 = some (.inl 6)) {r : Mm} (h : fX6_collectWords n Sh M a0 a1 a2 = some r) : Ct l yX6_collectWords cX6_collectWords 3 none rmX6_collectWords G Sh M [.ref a0, .int a1, .int a2] none r := by
  refine Ct.of (by decide) (Nat.le_of_ble_eq_true rfl) ?_
  intro p e s m args below meth c ls C hK hX hP hS hb hlk hr hl
  replace hl : lv_has ls 3 [(0, .ref a0), (1, .int a1), (2, .int a2)] := hl
  unfold fX6_collectWords at h
  refine lv_aload_n C.1 C.2.1 dX6_collectWords_0 rfl (lv_at hl 0 rfl) ?_
  refine r_tF C hK hP hT cl_6 (k := 6) (by decide) wd_270 rfl dX6_collectWords_1 h (fun b1 h => ?_)
  obtain ⟨hs, h⟩ := chk_some h
  obtain ⟨r2, hc, h⟩ := bS h
  refine r_V0 C hK hX hb hP hS hl.1 (kX5_empty (hs) hc) hs cl_5 wd_617 mo_X5_empty wd_141 wd_142 ⟨Nat.le_of_ble_eq_true rfl, Nat.le_of_ble_eq_true rfl⟩ ⟨Nat.le_of_ble_eq_true rfl, Nat.le_of_ble_eq_true rfl⟩ rfl (rest := []) rfl (Nat.le_of_ble_eq_true rfl) dX6_collectWords_4 (fun H locs hP hS => ?_)
  refine lv_iload_n C.1 C.2.1 dX6_collectWords_7 rfl (lv_at hl 2 rfl) ?_
  by_cases q0 : a2 = 0
  · rw [if_pos q0] at h
    refine lv_tableIn (off := 36) (tgt := 44) C.1 C.2.1 dX6_collectWords_8 (by rw [q0]; decide) (by rw [q0]; decide) (by rw [q0]; decide) (by decide) ?_
    refine lv_aload_n C.1 C.2.1 dX6_collectWords_44 rfl (lv_at hl 0 rfl) ?_
    refine r_tF C hK hP hT cl_6 (k := 6) (by decide) wd_270 rfl dX6_collectWords_45 h (fun b3 h => ?_)
    refine lv_aload_n C.1 C.2.1 dX6_collectWords_48 rfl (lv_at hl 0 rfl) ?_
    refine r_tF C hK hP hT cl_6 (k := 0) (by decide) wd_264 rfl dX6_collectWords_49 h (fun b4 h => ?_)
    refine r_gFN C hK hP cl_3 (k := 0) (by decide) (hX.nw wd_209) rfl dX6_collectWords_52 h (fun b5 h => ?_)
    refine lv_iload_n C.1 C.2.1 dX6_collectWords_55 rfl (lv_at hl 1 rfl) ?_
    obtain ⟨hs, h⟩ := chk_some h
    obtain ⟨r6, hc, h⟩ := bS h
    refine r_V1 C hK hX hb hP hS hl.1 (kX4_textOf (hs) hc) hs cl_4 wd_902 mo_X4_textOf wd_471 wd_472 ⟨Nat.le_of_ble_eq_true rfl, Nat.le_of_ble_eq_true rfl⟩ ⟨Nat.le_of_ble_eq_true rfl, Nat.le_of_ble_eq_true rfl⟩ rfl (rest := [.ref b3]) rfl (Nat.le_of_ble_eq_true rfl) dX6_collectWords_56 (fun H locs hP hS => ?_)
    obtain ⟨hs, h⟩ := chk_some h
    obtain ⟨r7, hc, h⟩ := bS h
    refine r_V0 C hK hX hb hP hS hl.1 (kX5_join (hs) hc) hs cl_5 wd_944 mo_X5_join wd_475 wd_476 ⟨Nat.le_of_ble_eq_true rfl, Nat.le_of_ble_eq_true rfl⟩ ⟨Nat.le_of_ble_eq_true rfl, Nat.le_of_ble_eq_true rfl⟩ rfl (rest := []) rfl (Nat.le_of_ble_eq_true rfl) dX6_collectWords_59 (fun H locs hP hS => ?_)
    refine lv_goto (tgt := 155) C.1 C.2.1 dX6_collectWords_62 (by decide) ?_
    have e := Option.some.inj h
    exact q_v C hlk hP hS hr rfl e.symm dX6_collectWords_155
  rw [if_neg q0] at h
  by_cases q1 : a2 = 1
  · rw [if_pos q1] at h
    refine lv_tableIn (off := 57) (tgt := 65) C.1 C.2.1 dX6_collectWords_8 (by rw [q1]; decide) (by rw [q1]; decide) (by rw [q1]; decide) (by decide) ?_
    refine lv_aload_n C.1 C.2.1 dX6_collectWords_65 rfl (lv_at hl 0 rfl) ?_
    refine r_tF C hK hP hT cl_6 (k := 6) (by decide) wd_270 rfl dX6_collectWords_66 h (fun b8 h => ?_)
    refine lv_aload_n C.1 C.2.1 dX6_collectWords_69 rfl (lv_at hl 0 rfl) ?_
    refine r_tF C hK hP hT cl_6 (k := 0) (by decide) wd_264 rfl dX6_collectWords_70 h (fun b9 h => ?_)
    refine r_gFN C hK hP cl_3 (k := 0) (by decide) (hX.nw wd_209) rfl dX6_collectWords_73 h (fun b10 h => ?_)
    refine lv_iload_n C.1 C.2.1 dX6_collectWords_76 rfl (lv_at hl 1 rfl) ?_
    obtain ⟨hs, h⟩ := chk_some h
    obtain ⟨r11, hc, h⟩ := bS h
    refine r_V1 C hK hX hb hP hS hl.1 (kX4_labelOf (hs) hc) hs cl_4 wd_919 mo_X4_labelOf wd_491 wd_492 ⟨Nat.le_of_ble_eq_true rfl, Nat.le_of_ble_eq_true rfl⟩ ⟨Nat.le_of_ble_eq_true rfl, Nat.le_of_ble_eq_true rfl⟩ rfl (rest := [.ref b8]) rfl (Nat.le_of_ble_eq_true rfl) dX6_collectWords_77 (fun H locs hP hS => ?_)
    obtain ⟨hs, h⟩ := chk_some h
    obtain ⟨r12, hc, h⟩ := bS h
    refine r_V0 C hK hX hb hP hS hl.1 (kX5_join (hs) hc) hs cl_5 wd_944 mo_X5_join wd_475 wd_476 ⟨Nat.le_of_ble_eq_true rfl, Nat.le_of_ble_eq_true rfl⟩ ⟨Nat.le_of_ble_eq_true rfl, Nat.le_of_ble_eq_true rfl⟩ rfl (rest := []) rfl (Nat.le_of_ble_eq_true rfl) dX6_collectWords_80 (fun H locs hP hS => ?_)
    refine lv_goto (tgt := 155) C.1 C.2.1 dX6_collectWords_83 (by decide) ?_
    have e := Option.some.inj h
    exact q_v C hlk hP hS hr rfl e.symm dX6_collectWords_155
  rw [if_neg q1] at h
  by_cases q2 : a2 = 2
  · rw [if_pos q2] at h
    refine lv_tableIn (off := 78) (tgt := 86) C.1 C.2.1 dX6_collectWords_8 (by rw [q2]; decide) (by rw [q2]; decide) (by rw [q2]; decide) (by decide) ?_
    refine lv_aload_n C.1 C.2.1 dX6_collectWords_86 rfl (lv_at hl 0 rfl) ?_
    refine r_tF C hK hP hT cl_6 (k := 0) (by decide) wd_264 rfl dX6_collectWords_87 h (fun b13 h => ?_)
    refine r_gFN C hK hP cl_3 (k := 0) (by decide) (hX.nw wd_209) rfl dX6_collectWords_90 h (fun b14 h => ?_)
    refine lv_iload_n C.1 C.2.1 dX6_collectWords_93 rfl (lv_at hl 1 rfl) ?_
    refine lv_aload_n C.1 C.2.1 dX6_collectWords_94 rfl (lv_at hl 0 rfl) ?_
    refine r_tF C hK hP hT cl_6 (k := 6) (by decide) wd_270 rfl dX6_collectWords_95 h (fun b15 h => ?_)
    obtain ⟨hs, h⟩ := chk_some h
    obtain ⟨r16, hc, h⟩ := bS h
    refine r_V0 C hK hX hb hP hS hl.1 (kX4_joinName (hs) hc) hs cl_4 wd_945 mo_X4_joinName wd_459 wd_460 ⟨Nat.le_of_ble_eq_true rfl, Nat.le_of_ble_eq_true rfl⟩ ⟨Nat.le_of_ble_eq_true rfl, Nat.le_of_ble_eq_true rfl⟩ rfl (rest := []) rfl (Nat.le_of_ble_eq_true rfl) dX6_collectWords_98 (fun H locs hP hS => ?_)
    refine lv_goto (tgt := 155) C.1 C.2.1 dX6_collectWords_101 (by decide) ?_
    have e := Option.some.inj h
    exact q_v C hlk hP hS hr rfl e.symm dX6_collectWords_155
  rw [if_neg q2] at h
  by_cases q3 : a2 = 3
  · rw [if_pos q3] at h
    refine lv_tableIn (off := 96) (tgt := 104) C.1 C.2.1 dX6_collectWords_8 (by rw [q3]; decide) (by rw [q3]; decide) (by rw [q3]; decide) (by decide) ?_
    refine lv_aload_n C.1 C.2.1 dX6_collectWords_104 rfl (lv_at hl 0 rfl) ?_
    refine r_tF C hK hP hT cl_6 (k := 0) (by decide) wd_264 rfl dX6_collectWords_105 h (fun b17 h => ?_)
    refine r_gFN C hK hP cl_3 (k := 0) (by decide) (hX.nw wd_209) rfl dX6_collectWords_108 h (fun b18 h => ?_)
    refine lv_iload_n C.1 C.2.1 dX6_collectWords_111 rfl (lv_at hl 1 rfl) ?_
    refine lv_aload_n C.1 C.2.1 dX6_collectWords_112 rfl (lv_at hl 0 rfl) ?_
    refine r_tF C hK hP hT cl_6 (k := 6) (by decide) wd_270 rfl dX6_collectWords_113 h (fun b19 h => ?_)
    obtain ⟨hs, h⟩ := chk_some h
    obtain ⟨r20, hc, h⟩ := bS h
    refine r_V0 C hK hX hb hP hS hl.1 (kX4_joinPhrase (hs) hc) hs cl_4 wd_640 mo_X4_joinPhrase wd_455 wd_456 ⟨Nat.le_of_ble_eq_true rfl, Nat.le_of_ble_eq_true rfl⟩ ⟨Nat.le_of_ble_eq_true rfl, Nat.le_of_ble_eq_true rfl⟩ rfl (rest := []) rfl (Nat.le_of_ble_eq_true rfl) dX6_collectWords_116 (fun H locs hP hS => ?_)
    refine lv_goto (tgt := 155) C.1 C.2.1 dX6_collectWords_119 (by decide) ?_
    have e := Option.some.inj h
    exact q_v C hlk hP hS hr rfl e.symm dX6_collectWords_155
  rw [if_neg q3] at h
  by_cases q4 : a2 = 4
  · rw [if_pos q4] at h
    refine lv_tableIn (off := 114) (tgt := 122) C.1 C.2.1 dX6_collectWords_8 (by rw [q4]; decide) (by rw [q4]; decide) (by rw [q4]; decide) (by decide) ?_
    refine lv_aload_n C.1 C.2.1 dX6_collectWords_122 rfl (lv_at hl 0 rfl) ?_
    refine r_tF C hK hP hT cl_6 (k := 0) (by decide) wd_264 rfl dX6_collectWords_123 h (fun b21 h => ?_)
    refine r_gFN C hK hP cl_3 (k := 0) (by decide) (hX.nw wd_209) rfl dX6_collectWords_126 h (fun b22 h => ?_)
    refine lv_iload_n C.1 C.2.1 dX6_collectWords_129 rfl (lv_at hl 1 rfl) ?_
    refine lv_aload_n C.1 C.2.1 dX6_collectWords_130 rfl (lv_at hl 0 rfl) ?_
    refine r_tF C hK hP hT cl_6 (k := 6) (by decide) wd_270 rfl dX6_collectWords_131 h (fun b23 h => ?_)
    obtain ⟨hs, h⟩ := chk_some h
    obtain ⟨r24, hc, h⟩ := bS h
    refine r_V0 C hK hX hb hP hS hl.1 (kX4_joinContent (hs) hc) hs cl_4 wd_946 mo_X4_joinContent wd_947 wd_948 ⟨Nat.le_of_ble_eq_true rfl, Nat.le_of_ble_eq_true rfl⟩ ⟨Nat.le_of_ble_eq_true rfl, Nat.le_of_ble_eq_true rfl⟩ rfl (rest := []) rfl (Nat.le_of_ble_eq_true rfl) dX6_collectWords_134 (fun H locs hP hS => ?_)
    refine lv_goto (tgt := 155) C.1 C.2.1 dX6_collectWords_137 (by decide) ?_
    have e := Option.some.inj h
    exact q_v C hlk hP hS hr rfl e.symm dX6_collectWords_155
  rw [if_neg q4] at h
  refine lv_tableOut (tgt := 140) C.1 C.2.1 dX6_collectWords_8 (sw_out (x := a2) (lo := 0) (n := 5) (by decide) (fun j hj => match j, hj with | 0, _ => fun hx => q0 (hx.trans (by decide)) | 1, _ => fun hx => q1 (hx.trans (by decide)) | 2, _ => fun hx => q2 (hx.trans (by decide)) | 3, _ => fun hx => q3 (hx.trans (by decide)) | 4, _ => fun hx => q4 (hx.trans (by decide)) | (k + 5), hj => absurd hj (by omega))) (by decide) ?_
  refine lv_aload_n C.1 C.2.1 dX6_collectWords_140 rfl (lv_at hl 0 rfl) ?_
  refine r_tF C hK hP hT cl_6 (k := 0) (by decide) wd_264 rfl dX6_collectWords_141 h (fun b25 h => ?_)
  refine r_gFN C hK hP cl_3 (k := 0) (by decide) (hX.nw wd_209) rfl dX6_collectWords_144 h (fun b26 h => ?_)
  refine lv_iload_n C.1 C.2.1 dX6_collectWords_147 rfl (lv_at hl 1 rfl) ?_
  refine lv_aload_n C.1 C.2.1 dX6_collectWords_148 rfl (lv_at hl 0 rfl) ?_
  refine r_tF C hK hP hT cl_6 (k := 6) (by decide) wd_270 rfl dX6_collectWords_149 h (fun b27 h => ?_)
  obtain ⟨hs, h⟩ := chk_some h
  obtain ⟨r28, hc, h⟩ := bS h
  refine r_V0 C hK hX hb hP hS hl.1 (kX4_joinPart (hs) hc) hs cl_4 wd_950 mo_X4_joinPart wd_882 wd_883 ⟨Nat.le_of_ble_eq_true rfl, Nat.le_of_ble_eq_true rfl⟩ ⟨Nat.le_of_ble_eq_true rfl, Nat.le_of_ble_eq_true rfl⟩ rfl (rest := []) rfl (Nat.le_of_ble_eq_true rfl) dX6_collectWords_152 (fun H locs hP hS => ?_)
  have e := Option.some.inj h
  exact q_v C hlk hP hS hr rfl e.symm dX6_collectWords_155
theorem dX6_character_0 : decode cX6_character 0 = .ok (.aload_n 0, 1) := by decide +kernel
theorem dX6_character_1 : decode cX6_character 1 = .ok (.iload_n 1, 1) := by decide +kernel
theorem dX6_character_2 : decode cX6_character 2 = .ok (.invokevirtual 62, 3) := by decide +kernel
theorem dX6_character_5 : decode cX6_character 5 = .ok (.iload_n 2, 1) := by decide +kernel
theorem dX6_character_6 : decode cX6_character 6 = .ok (.bipush 6, 2) := by decide +kernel
theorem dX6_character_8 : decode cX6_character 8 = .ok (.invokestatic 128, 3) := by decide +kernel
theorem dX6_character_11 : decode cX6_character 11 = .ok (.aload_n 0, 1) := by decide +kernel
theorem dX6_character_12 : decode cX6_character 12 = .ok (.iload_n 1, 1) := by decide +kernel
theorem dX6_character_13 : decode cX6_character 13 = .ok (.iload_n 2, 1) := by decide +kernel
theorem dX6_character_14 : decode cX6_character 14 = .ok (.invokevirtual 185, 3) := by decide +kernel
theorem dX6_character_17 : decode cX6_character 17 = .ok (.aload_n 0, 1) := by decide +kernel
theorem dX6_character_18 : decode cX6_character 18 = .ok (.getfield 55, 3) := by decide +kernel
theorem dX6_character_21 : decode cX6_character 21 = .ok (.iload_n 3, 1) := by decide +kernel
theorem dX6_character_22 : decode cX6_character 22 = .ok (.invokevirtual 188, 3) := by decide +kernel
theorem dX6_character_25 : decode cX6_character 25 = .ok (.ireturn, 1) := by decide +kernel
abbrev rmX6_character : Room := { frames := 66, cells := 2, slots := 12, locals := 1666 }
noncomputable def fX6_character (n : Nat) (Sh : Sp) (M : Mm) (a0 : Nat) (a1 : Int32) (a2 : Int32) (a3 : Int32) : Option ((String ⊕ Int32) × Mm) :=
  xb (fX6_requireNode n Sh M a0 a1) (fun E => some (Sum.inl E, M)) <|
  xb (fX6_requireKind n Sh M a2 6) (fun E => some (Sum.inl E, M)) <|
  (fX6_collectWords n Sh M a0 a1 a2).bind fun r5 =>
  tF r5 a0 6 fun b6 =>
  chk (Sh b6 = some (.inl 5)) <|
  (fX5_at n Sh r5 b6 a3).bind fun r7 =>
  some (Sum.inr r7, r5)
set_option maxRecDepth 100000 in
set_option maxHeartbeats 4000000 in
theorem kX6_character {l : Launch} {G : Gt} {n : Nat} {Sh : Sp} {M : Mm} {a0 : Nat} {a1 : Int32} {a2 : Int32} {a3 : Int32} (hT : Sh a0 = some (.inl 6)) (hfl : l.stackTraces = false) {r : ((String ⊕ Int32) × Mm)} (h : fX6_character n Sh M a0 a1 a2 a3 = some r) : CtX l yX6_character cX6_character 4 (some .int) rmX6_character G Sh M [.ref a0, .int a1, .int a2, .int a3] (rsI r.1) r.2 := by
  refine CtX.of (by decide) (Nat.le_of_ble_eq_true rfl) ?_
  intro p e s m args below meth c ls C hK hX hP hS hb hlk hr hno hl
  replace hl : lv_has ls 4 [(0, .ref a0), (1, .int a1), (2, .int a2), (3, .int a3)] := hl
  unfold fX6_character at h
  refine lv_aload_n C.1 C.2.1 dX6_character_0 rfl (lv_at hl 0 rfl) ?_
  refine lv_iload_n C.1 C.2.1 dX6_character_1 rfl (lv_at hl 1 rfl) ?_
  obtain ⟨z2, hc, hE, h⟩ := xb_some h
  refine r_VX0 C hno hlk hK hX hb hP hS hl.1 (kX6_requireNode hT hfl hc) hT cl_6 wd_671 mo_X6_requireNode wd_673 wd_12 ⟨Nat.le_of_ble_eq_true rfl, Nat.le_of_ble_eq_true rfl⟩ ⟨Nat.le_of_ble_eq_true rfl, Nat.le_of_ble_eq_true rfl⟩ rfl (rest := []) rfl (Nat.le_of_ble_eq_true rfl) dX6_character_2 (k1 := 1) (k2 := 6) ⟨Nat.le_of_ble_eq_true rfl, Nat.le_of_ble_eq_true rfl⟩ ⟨Nat.le_of_ble_eq_true rfl, Nat.le_of_ble_eq_true rfl⟩ (fun E q => by have e := Option.some.inj (hE E q); rw [← e]; exact ⟨rfl, rfl⟩) (fun H locs hz hP hS => ?_)
  replace h := h hz
  refine lv_iload_n C.1 C.2.1 dX6_character_5 rfl (lv_at hl 2 rfl) ?_
  refine lv_bipush (v := 6) C.1 C.2.1 dX6_character_6 (by decide) ?_
  obtain ⟨z4, hc, hE, h⟩ := xb_some h
  refine r_SX0 C hno hlk hK hX hb hP hS hl.1 (kX6_requireKind hfl hc) wd_839 mo_X6_requireKind wd_840 ⟨Nat.le_of_ble_eq_true rfl, Nat.le_of_ble_eq_true rfl⟩ ⟨Nat.le_of_ble_eq_true rfl, Nat.le_of_ble_eq_true rfl⟩ rfl (rest := []) rfl (Nat.le_of_ble_eq_true rfl) dX6_character_8 (k1 := 2) (k2 := 12) ⟨Nat.le_of_ble_eq_true rfl, Nat.le_of_ble_eq_true rfl⟩ ⟨Nat.le_of_ble_eq_true rfl, Nat.le_of_ble_eq_true rfl⟩ (fun E q => by have e := Option.some.inj (hE E q); rw [← e]; exact ⟨rfl, rfl⟩) (fun H locs hz hP hS => ?_)
  replace h := h hz
  refine lv_aload_n C.1 C.2.1 dX6_character_11 rfl (lv_at hl 0 rfl) ?_
  refine lv_iload_n C.1 C.2.1 dX6_character_12 rfl (lv_at hl 1 rfl) ?_
  refine lv_iload_n C.1 C.2.1 dX6_character_13 rfl (lv_at hl 2 rfl) ?_
  obtain ⟨r5, hc, h⟩ := bS h
  refine r_V0 C hK hX hb hP hS hl.1 (kX6_collectWords (hT) hc) hT cl_6 wd_940 mo_X6_collectWords wd_942 wd_15 ⟨Nat.le_of_ble_eq_true rfl, Nat.le_of_ble_eq_true rfl⟩ ⟨Nat.le_of_ble_eq_true rfl, Nat.le_of_ble_eq_true rfl⟩ rfl (rest := []) rfl (Nat.le_of_ble_eq_true rfl) dX6_character_14 (fun H locs hP hS => ?_)
  refine lv_aload_n C.1 C.2.1 dX6_character_17 rfl (lv_at hl 0 rfl) ?_
  refine r_tF C hK hP hT cl_6 (k := 6) (by decide) wd_270 rfl dX6_character_18 h (fun b6 h => ?_)
  refine lv_iload_n C.1 C.2.1 dX6_character_21 rfl (lv_at hl 3 rfl) ?_
  obtain ⟨hs, h⟩ := chk_some h
  obtain ⟨r7, hc, h⟩ := bS h
  refine r_V1 C hK hX hb hP hS hl.1 (kX5_at (hs) hc) hs cl_5 wd_604 mo_X5_at wd_483 wd_484 ⟨Nat.le_of_ble_eq_true rfl, Nat.le_of_ble_eq_true rfl⟩ ⟨Nat.le_of_ble_eq_true rfl, Nat.le_of_ble_eq_true rfl⟩ rfl (rest := []) rfl (Nat.le_of_ble_eq_true rfl) dX6_character_22 (fun H locs hP hS => ?_)
  have e := Option.some.inj h
  exact x_i C hlk hP hS hr e dX6_character_25
theorem dX6_length_0 : decode cX6_length 0 = .ok (.aload_n 0, 1) := by decide +kernel
theorem dX6_length_1 : decode cX6_length 1 = .ok (.iload_n 1, 1) := by decide +kernel
theorem dX6_length_2 : decode cX6_length 2 = .ok (.invokevirtual 62, 3) := by decide +kernel
theorem dX6_length_5 : decode cX6_length 5 = .ok (.iload_n 2, 1) := by decide +kernel
theorem dX6_length_6 : decode cX6_length 6 = .ok (.bipush 6, 2) := by decide +kernel
theorem dX6_length_8 : decode cX6_length 8 = .ok (.invokestatic 128, 3) := by decide +kernel
theorem dX6_length_11 : decode cX6_length 11 = .ok (.aload_n 0, 1) := by decide +kernel
theorem dX6_length_12 : decode cX6_length 12 = .ok (.iload_n 1, 1) := by decide +kernel
theorem dX6_length_13 : decode cX6_length 13 = .ok (.iload_n 2, 1) := by decide +kernel
theorem dX6_length_14 : decode cX6_length 14 = .ok (.invokevirtual 185, 3) := by decide +kernel
theorem dX6_length_17 : decode cX6_length 17 = .ok (.aload_n 0, 1) := by decide +kernel
theorem dX6_length_18 : decode cX6_length 18 = .ok (.getfield 55, 3) := by decide +kernel
theorem dX6_length_21 : decode cX6_length 21 = .ok (.getfield 171, 3) := by decide +kernel
theorem dX6_length_24 : decode cX6_length 24 = .ok (.ireturn, 1) := by decide +kernel
abbrev rmX6_length : Room := { frames := 66, cells := 2, slots := 12, locals := 1666 }
noncomputable def fX6_length (n : Nat) (Sh : Sp) (M : Mm) (a0 : Nat) (a1 : Int32) (a2 : Int32) : Option ((String ⊕ Int32) × Mm) :=
  xb (fX6_requireNode n Sh M a0 a1) (fun E => some (Sum.inl E, M)) <|
  xb (fX6_requireKind n Sh M a2 6) (fun E => some (Sum.inl E, M)) <|
  (fX6_collectWords n Sh M a0 a1 a2).bind fun r5 =>
  tF r5 a0 6 fun b6 =>
  gI Sh r5 b6 5 1 fun x7 =>
  some (Sum.inr x7, r5)
set_option maxRecDepth 100000 in
set_option maxHeartbeats 4000000 in
theorem kX6_length {l : Launch} {G : Gt} {n : Nat} {Sh : Sp} {M : Mm} {a0 : Nat} {a1 : Int32} {a2 : Int32} (hT : Sh a0 = some (.inl 6)) (hfl : l.stackTraces = false) {r : ((String ⊕ Int32) × Mm)} (h : fX6_length n Sh M a0 a1 a2 = some r) : CtX l yX6_length cX6_length 3 (some .int) rmX6_length G Sh M [.ref a0, .int a1, .int a2] (rsI r.1) r.2 := by
  refine CtX.of (by decide) (Nat.le_of_ble_eq_true rfl) ?_
  intro p e s m args below meth c ls C hK hX hP hS hb hlk hr hno hl
  replace hl : lv_has ls 3 [(0, .ref a0), (1, .int a1), (2, .int a2)] := hl
  unfold fX6_length at h
  refine lv_aload_n C.1 C.2.1 dX6_length_0 rfl (lv_at hl 0 rfl) ?_
  refine lv_iload_n C.1 C.2.1 dX6_length_1 rfl (lv_at hl 1 rfl) ?_
  obtain ⟨z2, hc, hE, h⟩ := xb_some h
  refine r_VX0 C hno hlk hK hX hb hP hS hl.1 (kX6_requireNode hT hfl hc) hT cl_6 wd_671 mo_X6_requireNode wd_673 wd_12 ⟨Nat.le_of_ble_eq_true rfl, Nat.le_of_ble_eq_true rfl⟩ ⟨Nat.le_of_ble_eq_true rfl, Nat.le_of_ble_eq_true rfl⟩ rfl (rest := []) rfl (Nat.le_of_ble_eq_true rfl) dX6_length_2 (k1 := 1) (k2 := 6) ⟨Nat.le_of_ble_eq_true rfl, Nat.le_of_ble_eq_true rfl⟩ ⟨Nat.le_of_ble_eq_true rfl, Nat.le_of_ble_eq_true rfl⟩ (fun E q => by have e := Option.some.inj (hE E q); rw [← e]; exact ⟨rfl, rfl⟩) (fun H locs hz hP hS => ?_)
  replace h := h hz
  refine lv_iload_n C.1 C.2.1 dX6_length_5 rfl (lv_at hl 2 rfl) ?_
  refine lv_bipush (v := 6) C.1 C.2.1 dX6_length_6 (by decide) ?_
  obtain ⟨z4, hc, hE, h⟩ := xb_some h
  refine r_SX0 C hno hlk hK hX hb hP hS hl.1 (kX6_requireKind hfl hc) wd_839 mo_X6_requireKind wd_840 ⟨Nat.le_of_ble_eq_true rfl, Nat.le_of_ble_eq_true rfl⟩ ⟨Nat.le_of_ble_eq_true rfl, Nat.le_of_ble_eq_true rfl⟩ rfl (rest := []) rfl (Nat.le_of_ble_eq_true rfl) dX6_length_8 (k1 := 2) (k2 := 12) ⟨Nat.le_of_ble_eq_true rfl, Nat.le_of_ble_eq_true rfl⟩ ⟨Nat.le_of_ble_eq_true rfl, Nat.le_of_ble_eq_true rfl⟩ (fun E q => by have e := Option.some.inj (hE E q); rw [← e]; exact ⟨rfl, rfl⟩) (fun H locs hz hP hS => ?_)
  replace h := h hz
  refine lv_aload_n C.1 C.2.1 dX6_length_11 rfl (lv_at hl 0 rfl) ?_
  refine lv_iload_n C.1 C.2.1 dX6_length_12 rfl (lv_at hl 1 rfl) ?_
  refine lv_iload_n C.1 C.2.1 dX6_length_13 rfl (lv_at hl 2 rfl) ?_
  obtain ⟨r5, hc, h⟩ := bS h
  refine r_V0 C hK hX hb hP hS hl.1 (kX6_collectWords (hT) hc) hT cl_6 wd_940 mo_X6_collectWords wd_942 wd_15 ⟨Nat.le_of_ble_eq_true rfl, Nat.le_of_ble_eq_true rfl⟩ ⟨Nat.le_of_ble_eq_true rfl, Nat.le_of_ble_eq_true rfl⟩ rfl (rest := []) rfl (Nat.le_of_ble_eq_true rfl) dX6_length_14 (fun H locs hP hS => ?_)
  refine lv_aload_n C.1 C.2.1 dX6_length_17 rfl (lv_at hl 0 rfl) ?_
  refine r_tF C hK hP hT cl_6 (k := 6) (by decide) wd_270 rfl dX6_length_18 h (fun b6 h => ?_)
  refine r_gIN C hK hP cl_5 (k := 1) (by decide) (hX.nw wd_127) rfl dX6_length_21 h (fun x7 h => ?_)
  have e := Option.some.inj h
  exact x_i C hlk hP hS hr e dX6_length_24
theorem dX6_inOrder_0 : decode cX6_inOrder 0 = .ok (.aload_n 0, 1) := by decide +kernel
theorem dX6_inOrder_1 : decode cX6_inOrder 1 = .ok (.getfield 10, 3) := by decide +kernel
theorem dX6_inOrder_4 : decode cX6_inOrder 4 = .ok (.getfield 27, 3) := by decide +kernel
theorem dX6_inOrder_7 : decode cX6_inOrder 7 = .ok (.aload_n 0, 1) := by decide +kernel
theorem dX6_inOrder_8 : decode cX6_inOrder 8 = .ok (.getfield 58, 3) := by decide +kernel
theorem dX6_inOrder_11 : decode cX6_inOrder 11 = .ok (.invokevirtual 191, 3) := by decide +kernel
theorem dX6_inOrder_14 : decode cX6_inOrder 14 = .ok (.istore_n 2, 1) := by decide +kernel
theorem dX6_inOrder_15 : decode cX6_inOrder 15 = .ok (.iload_n 1, 1) := by decide +kernel
theorem dX6_inOrder_16 : decode cX6_inOrder 16 = .ok (.ifCond .lt 26, 3) := by decide +kernel
theorem dX6_inOrder_19 : decode cX6_inOrder 19 = .ok (.iload_n 1, 1) := by decide +kernel
theorem dX6_inOrder_20 : decode cX6_inOrder 20 = .ok (.iload_n 2, 1) := by decide +kernel
theorem dX6_inOrder_21 : decode cX6_inOrder 21 = .ok (.if_icmp .ge 21, 3) := by decide +kernel
theorem dX6_inOrder_24 : decode cX6_inOrder 24 = .ok (.iload_n 1, 1) := by decide +kernel
theorem dX6_inOrder_25 : decode cX6_inOrder 25 = .ok (.aload_n 0, 1) := by decide +kernel
theorem dX6_inOrder_26 : decode cX6_inOrder 26 = .ok (.getfield 58, 3) := by decide +kernel
theorem dX6_inOrder_29 : decode cX6_inOrder 29 = .ok (.arraylength, 1) := by decide +kernel
theorem dX6_inOrder_30 : decode cX6_inOrder 30 = .ok (.if_icmp .ge 12, 3) := by decide +kernel
theorem dX6_inOrder_33 : decode cX6_inOrder 33 = .ok (.aload_n 0, 1) := by decide +kernel
theorem dX6_inOrder_34 : decode cX6_inOrder 34 = .ok (.getfield 58, 3) := by decide +kernel
theorem dX6_inOrder_37 : decode cX6_inOrder 37 = .ok (.iload_n 1, 1) := by decide +kernel
theorem dX6_inOrder_38 : decode cX6_inOrder 38 = .ok (.iaload, 1) := by decide +kernel
theorem dX6_inOrder_39 : decode cX6_inOrder 39 = .ok (.goto 4, 3) := by decide +kernel
theorem dX6_inOrder_42 : decode cX6_inOrder 42 = .ok (.iconst (-1), 1) := by decide +kernel
theorem dX6_inOrder_43 : decode cX6_inOrder 43 = .ok (.ireturn, 1) := by decide +kernel
abbrev rmX6_inOrder : Room := { frames := 33, cells := 0, slots := 0, locals := 849 }
noncomputable def fX6_inOrder (n : Nat) (Sh : Sp) (M : Mm) (a0 : Nat) (a1 : Int32) : Option (Int32 × Mm) :=
  tF M a0 0 fun b1 =>
  gF Sh M b1 3 0 fun b2 =>
  tF M a0 7 fun b3 =>
  chk (Sh b2 = some (.inl 4)) <|
  (fX4_writeOrder n Sh M b2 b3).bind fun r4 =>
  if a1 < 0 then
    some ((-1), r4.2)
  else
    if a1 < r4.1 then
      tF r4.2 a0 7 fun b5 =>
      aN Sh b5 fun x6 =>
      if a1 < x6 then
        tF r4.2 a0 7 fun b7 =>
        aI Sh r4.2 b7 0 a1 fun x8 =>
        some (x8, r4.2)
      else
        some ((-1), r4.2)
    else
      some ((-1), r4.2)
set_option maxRecDepth 100000 in
set_option maxHeartbeats 4000000 in
theorem kX6_inOrder {l : Launch} {G : Gt} {n : Nat} {Sh : Sp} {M : Mm} {a0 : Nat} {a1 : Int32} (hT : Sh a0 = some (.inl 6)) {r : (Int32 × Mm)} (h : fX6_inOrder n Sh M a0 a1 = some r) : Ct l yX6_inOrder cX6_inOrder 3 (some .int) rmX6_inOrder G Sh M [.ref a0, .int a1] (some (.int r.1)) r.2 := by
  refine Ct.of (by decide) (Nat.le_of_ble_eq_true rfl) ?_
  intro p e s m args below meth c ls C hK hX hP hS hb hlk hr hl
  replace hl : lv_has ls 3 [(0, .ref a0), (1, .int a1)] := hl
  unfold fX6_inOrder at h
  refine lv_aload_n C.1 C.2.1 dX6_inOrder_0 rfl (lv_at hl 0 rfl) ?_
  refine r_tF C hK hP hT cl_6 (k := 0) (by decide) wd_264 rfl dX6_inOrder_1 h (fun b1 h => ?_)
  refine r_gFN C hK hP cl_3 (k := 0) (by decide) (hX.nw wd_209) rfl dX6_inOrder_4 h (fun b2 h => ?_)
  refine lv_aload_n C.1 C.2.1 dX6_inOrder_7 rfl (lv_at hl 0 rfl) ?_
  refine r_tF C hK hP hT cl_6 (k := 7) (by decide) wd_271 rfl dX6_inOrder_8 h (fun b3 h => ?_)
  obtain ⟨hs, h⟩ := chk_some h
  obtain ⟨r4, hc, h⟩ := bS h
  refine r_V1 C hK hX hb hP hS hl.1 (kX4_writeOrder (hs) hc) hs cl_4 wd_313 mo_X4_writeOrder wd_314 wd_315 ⟨Nat.le_of_ble_eq_true rfl, Nat.le_of_ble_eq_true rfl⟩ ⟨Nat.le_of_ble_eq_true rfl, Nat.le_of_ble_eq_true rfl⟩ rfl (rest := []) rfl (Nat.le_of_ble_eq_true rfl) dX6_inOrder_11 (fun H locs hP hS => ?_)
  refine lv_istore_n (lv' := [(2, .int r4.1), (0, .ref a0), (1, .int a1)]) C.1 C.2.1 dX6_inOrder_14 rfl hl (by decide) rfl (fun ls hl => ?_)
  refine lv_iload_n C.1 C.2.1 dX6_inOrder_15 rfl (lv_at hl 2 rfl) ?_
  refine b_lt (tgt := 42) C dX6_inOrder_16 (by decide) h (fun h => ?_) (fun h => ?_)
  · refine lv_iconst (v := (-1)) C.1 C.2.1 dX6_inOrder_42 (by decide) ?_
    have e := Option.some.inj h
    exact q_i C hlk hP hS hr (by rw [← e]) (by rw [← e]) dX6_inOrder_43
  · refine lv_iload_n C.1 C.2.1 dX6_inOrder_19 rfl (lv_at hl 2 rfl) ?_
    refine lv_iload_n C.1 C.2.1 dX6_inOrder_20 rfl (lv_at hl 0 rfl) ?_
    refine b_ige (tgt := 42) C dX6_inOrder_21 (by decide) h (fun h => ?_) (fun h => ?_)
    · refine lv_iload_n C.1 C.2.1 dX6_inOrder_24 rfl (lv_at hl 2 rfl) ?_
      refine lv_aload_n C.1 C.2.1 dX6_inOrder_25 rfl (lv_at hl 1 rfl) ?_
      refine r_tF C hK hP hT cl_6 (k := 7) (by decide) wd_271 rfl dX6_inOrder_26 h (fun b5 h => ?_)
      refine r_aN C hK hP dX6_inOrder_29 h (fun x6 h => ?_)
      refine b_ige (tgt := 42) C dX6_inOrder_30 (by decide) h (fun h => ?_) (fun h => ?_)
      · refine lv_aload_n C.1 C.2.1 dX6_inOrder_33 rfl (lv_at hl 1 rfl) ?_
        refine r_tF C hK hP hT cl_6 (k := 7) (by decide) wd_271 rfl dX6_inOrder_34 h (fun b7 h => ?_)
        refine lv_iload_n C.1 C.2.1 dX6_inOrder_37 rfl (lv_at hl 2 rfl) ?_
        refine r_aI C hK hP dX6_inOrder_38 h (fun x8 h => ?_)
        refine lv_goto (tgt := 43) C.1 C.2.1 dX6_inOrder_39 (by decide) ?_
        have e := Option.some.inj h
        exact q_i C hlk hP hS hr (by rw [← e]) (by rw [← e]) dX6_inOrder_43
      · refine lv_iconst (v := (-1)) C.1 C.2.1 dX6_inOrder_42 (by decide) ?_
        have e := Option.some.inj h
        exact q_i C hlk hP hS hr (by rw [← e]) (by rw [← e]) dX6_inOrder_43
    · refine lv_iconst (v := (-1)) C.1 C.2.1 dX6_inOrder_42 (by decide) ?_
      have e := Option.some.inj h
      exact q_i C hlk hP hS hr (by rw [← e]) (by rw [← e]) dX6_inOrder_43
theorem dX6_canFocus_0 : decode cX6_canFocus 0 = .ok (.aload_n 0, 1) := by decide +kernel
theorem dX6_canFocus_1 : decode cX6_canFocus 1 = .ok (.iload_n 1, 1) := by decide +kernel
theorem dX6_canFocus_2 : decode cX6_canFocus 2 = .ok (.invokevirtual 62, 3) := by decide +kernel
theorem dX6_canFocus_5 : decode cX6_canFocus 5 = .ok (.aload_n 0, 1) := by decide +kernel
theorem dX6_canFocus_6 : decode cX6_canFocus 6 = .ok (.getfield 21, 3) := by decide +kernel
theorem dX6_canFocus_9 : decode cX6_canFocus 9 = .ok (.iload_n 1, 1) := by decide +kernel
theorem dX6_canFocus_10 : decode cX6_canFocus 10 = .ok (.invokevirtual 195, 3) := by decide +kernel
theorem dX6_canFocus_13 : decode cX6_canFocus 13 = .ok (.ireturn, 1) := by decide +kernel
abbrev rmX6_canFocus : Room := { frames := 7, cells := 1, slots := 6, locals := 151 }
noncomputable def fX6_canFocus (n : Nat) (Sh : Sp) (M : Mm) (a0 : Nat) (a1 : Int32) : Option (String ⊕ Int32) :=
  xb (fX6_requireNode n Sh M a0 a1) (fun E => some (Sum.inl E)) <|
  tF M a0 1 fun b3 =>
  chk (Sh b3 = some (.inl 2)) <|
  (fX2_admits n Sh M b3 a1).bind fun r4 =>
  chk (r4 = 0 ∨ r4 = 1) (some (Sum.inr r4))
set_option maxRecDepth 100000 in
set_option maxHeartbeats 4000000 in
theorem kX6_canFocus {l : Launch} {G : Gt} {n : Nat} {Sh : Sp} {M : Mm} {a0 : Nat} {a1 : Int32} (hT : Sh a0 = some (.inl 6)) (hfl : l.stackTraces = false) {r : (String ⊕ Int32)} (h : fX6_canFocus n Sh M a0 a1 = some r) : CtX l yX6_canFocus cX6_canFocus 2 (some .boolean) rmX6_canFocus G Sh M [.ref a0, .int a1] (rsI r) M := by
  refine CtX.of (by decide) (Nat.le_of_ble_eq_true rfl) ?_
  intro p e s m args below meth c ls C hK hX hP hS hb hlk hr hno hl
  replace hl : lv_has ls 2 [(0, .ref a0), (1, .int a1)] := hl
  unfold fX6_canFocus at h
  refine lv_aload_n C.1 C.2.1 dX6_canFocus_0 rfl (lv_at hl 0 rfl) ?_
  refine lv_iload_n C.1 C.2.1 dX6_canFocus_1 rfl (lv_at hl 1 rfl) ?_
  obtain ⟨z2, hc, hE, h⟩ := xb_some h
  refine r_VX0 C hno hlk hK hX hb hP hS hl.1 (kX6_requireNode hT hfl hc) hT cl_6 wd_671 mo_X6_requireNode wd_673 wd_12 ⟨Nat.le_of_ble_eq_true rfl, Nat.le_of_ble_eq_true rfl⟩ ⟨Nat.le_of_ble_eq_true rfl, Nat.le_of_ble_eq_true rfl⟩ rfl (rest := []) rfl (Nat.le_of_ble_eq_true rfl) dX6_canFocus_2 (k1 := 1) (k2 := 6) ⟨Nat.le_of_ble_eq_true rfl, Nat.le_of_ble_eq_true rfl⟩ ⟨Nat.le_of_ble_eq_true rfl, Nat.le_of_ble_eq_true rfl⟩ (fun E q => by have e := Option.some.inj (hE E q); rw [← e]; exact ⟨rfl, rfl⟩) (fun H locs hz hP hS => ?_)
  replace h := h hz
  refine lv_aload_n C.1 C.2.1 dX6_canFocus_5 rfl (lv_at hl 0 rfl) ?_
  refine r_tF C hK hP hT cl_6 (k := 1) (by decide) wd_265 rfl dX6_canFocus_6 h (fun b3 h => ?_)
  refine lv_iload_n C.1 C.2.1 dX6_canFocus_9 rfl (lv_at hl 1 rfl) ?_
  obtain ⟨hs, h⟩ := chk_some h
  obtain ⟨r4, hc, h⟩ := bS h
  refine r_V1 C hK hX hb hP hS hl.1 (kX2_admits (hs) hc) hs cl_2 wd_965 mo_X2_admits wd_387 wd_388 ⟨Nat.le_of_ble_eq_true rfl, Nat.le_of_ble_eq_true rfl⟩ ⟨Nat.le_of_ble_eq_true rfl, Nat.le_of_ble_eq_true rfl⟩ rfl (rest := []) rfl (Nat.le_of_ble_eq_true rfl) dX6_canFocus_10 (fun H locs hP hS => ?_)
  obtain ⟨hzz, h⟩ := chk_some h
  have e := Option.some.inj h
  exact x_zr C hlk hP hS hr hzz e dX6_canFocus_13
theorem dX6_focusOrder_0 : decode cX6_focusOrder 0 = .ok (.aload_n 0, 1) := by decide +kernel
theorem dX6_focusOrder_1 : decode cX6_focusOrder 1 = .ok (.getfield 21, 3) := by decide +kernel
theorem dX6_focusOrder_4 : decode cX6_focusOrder 4 = .ok (.invokevirtual 199, 3) := by decide +kernel
theorem dX6_focusOrder_7 : decode cX6_focusOrder 7 = .ok (.aload_n 0, 1) := by decide +kernel
theorem dX6_focusOrder_8 : decode cX6_focusOrder 8 = .ok (.getfield 21, 3) := by decide +kernel
theorem dX6_focusOrder_11 : decode cX6_focusOrder 11 = .ok (.iload_n 1, 1) := by decide +kernel
theorem dX6_focusOrder_12 : decode cX6_focusOrder 12 = .ok (.invokevirtual 202, 3) := by decide +kernel
theorem dX6_focusOrder_15 : decode cX6_focusOrder 15 = .ok (.ireturn, 1) := by decide +kernel
abbrev rmX6_focusOrder : Room := { frames := 34, cells := 0, slots := 0, locals := 872 }
noncomputable def fX6_focusOrder (n : Nat) (Sh : Sp) (M : Mm) (a0 : Nat) (a1 : Int32) : Option (Int32 × Mm) :=
  tF M a0 1 fun b1 =>
  chk (Sh b1 = some (.inl 2)) <|
  (fX2_fill n Sh M b1).bind fun r2 =>
  tF r2 a0 1 fun b3 =>
  chk (Sh b3 = some (.inl 2)) <|
  (fX2_at n Sh r2 b3 a1).bind fun r4 =>
  some (r4, r2)
set_option maxRecDepth 100000 in
set_option maxHeartbeats 4000000 in
theorem kX6_focusOrder {l : Launch} {G : Gt} {n : Nat} {Sh : Sp} {M : Mm} {a0 : Nat} {a1 : Int32} (hT : Sh a0 = some (.inl 6)) {r : (Int32 × Mm)} (h : fX6_focusOrder n Sh M a0 a1 = some r) : Ct l yX6_focusOrder cX6_focusOrder 2 (some .int) rmX6_focusOrder G Sh M [.ref a0, .int a1] (some (.int r.1)) r.2 := by
  refine Ct.of (by decide) (Nat.le_of_ble_eq_true rfl) ?_
  intro p e s m args below meth c ls C hK hX hP hS hb hlk hr hl
  replace hl : lv_has ls 2 [(0, .ref a0), (1, .int a1)] := hl
  unfold fX6_focusOrder at h
  refine lv_aload_n C.1 C.2.1 dX6_focusOrder_0 rfl (lv_at hl 0 rfl) ?_
  refine r_tF C hK hP hT cl_6 (k := 1) (by decide) wd_265 rfl dX6_focusOrder_1 h (fun b1 h => ?_)
  obtain ⟨hs, h⟩ := chk_some h
  obtain ⟨r2, hc, h⟩ := bS h
  refine r_V0 C hK hX hb hP hS hl.1 (kX2_fill (hs) hc) hs cl_2 wd_333 mo_X2_fill wd_334 wd_335 ⟨Nat.le_of_ble_eq_true rfl, Nat.le_of_ble_eq_true rfl⟩ ⟨Nat.le_of_ble_eq_true rfl, Nat.le_of_ble_eq_true rfl⟩ rfl (rest := []) rfl (Nat.le_of_ble_eq_true rfl) dX6_focusOrder_4 (fun H locs hP hS => ?_)
  refine lv_aload_n C.1 C.2.1 dX6_focusOrder_7 rfl (lv_at hl 0 rfl) ?_
  refine r_tF C hK hP hT cl_6 (k := 1) (by decide) wd_265 rfl dX6_focusOrder_8 h (fun b3 h => ?_)
  refine lv_iload_n C.1 C.2.1 dX6_focusOrder_11 rfl (lv_at hl 1 rfl) ?_
  obtain ⟨hs, h⟩ := chk_some h
  obtain ⟨r4, hc, h⟩ := bS h
  refine r_V1 C hK hX hb hP hS hl.1 (kX2_at (hs) hc) hs cl_2 wd_374 mo_X2_at wd_375 wd_376 ⟨Nat.le_of_ble_eq_true rfl, Nat.le_of_ble_eq_true rfl⟩ ⟨Nat.le_of_ble_eq_true rfl, Nat.le_of_ble_eq_true rfl⟩ rfl (rest := []) rfl (Nat.le_of_ble_eq_true rfl) dX6_focusOrder_12 (fun H locs hP hS => ?_)
  have e := Option.some.inj h
  exact q_i C hlk hP hS hr (by rw [← e]) (by rw [← e]) dX6_focusOrder_15
theorem dX6_focus_0 : decode cX6_focus 0 = .ok (.aload_n 0, 1) := by decide +kernel
theorem dX6_focus_1 : decode cX6_focus 1 = .ok (.getfield 21, 3) := by decide +kernel
theorem dX6_focus_4 : decode cX6_focus 4 = .ok (.invokevirtual 203, 3) := by decide +kernel
theorem dX6_focus_7 : decode cX6_focus 7 = .ok (.ireturn, 1) := by decide +kernel
abbrev rmX6_focus : Room := { frames := 7, cells := 0, slots := 0, locals := 171 }
noncomputable def fX6_focus (n : Nat) (Sh : Sp) (M : Mm) (a0 : Nat) : Option Int32 :=
  tF M a0 1 fun b1 =>
  chk (Sh b1 = some (.inl 2)) <|
  (fX2_focusNow n Sh M b1).bind fun r2 =>
  some r2
set_option maxRecDepth 100000 in
set_option maxHeartbeats 4000000 in
theorem kX6_focus {l : Launch} {G : Gt} {n : Nat} {Sh : Sp} {M : Mm} {a0 : Nat} (hT : Sh a0 = some (.inl 6)) {r : Int32} (h : fX6_focus n Sh M a0 = some r) : Ct l yX6_focus cX6_focus 1 (some .int) rmX6_focus G Sh M [.ref a0] (some (.int r)) M := by
  refine Ct.of (by decide) (Nat.le_of_ble_eq_true rfl) ?_
  intro p e s m args below meth c ls C hK hX hP hS hb hlk hr hl
  replace hl : lv_has ls 1 [(0, .ref a0)] := hl
  unfold fX6_focus at h
  refine lv_aload_n C.1 C.2.1 dX6_focus_0 rfl (lv_at hl 0 rfl) ?_
  refine r_tF C hK hP hT cl_6 (k := 1) (by decide) wd_265 rfl dX6_focus_1 h (fun b1 h => ?_)
  obtain ⟨hs, h⟩ := chk_some h
  obtain ⟨r2, hc, h⟩ := bS h
  refine r_V1 C hK hX hb hP hS hl.1 (kX2_focusNow (hs) hc) hs cl_2 wd_382 mo_X2_focusNow wd_383 wd_384 ⟨Nat.le_of_ble_eq_true rfl, Nat.le_of_ble_eq_true rfl⟩ ⟨Nat.le_of_ble_eq_true rfl, Nat.le_of_ble_eq_true rfl⟩ rfl (rest := []) rfl (Nat.le_of_ble_eq_true rfl) dX6_focus_4 (fun H locs hP hS => ?_)
  have e := Option.some.inj h
  exact q_i C hlk hP hS hr (by rw [← e]) rfl dX6_focus_7
theorem dX6_focusOn_0 : decode cX6_focusOn 0 = .ok (.aload_n 0, 1) := by decide +kernel
theorem dX6_focusOn_1 : decode cX6_focusOn 1 = .ok (.iload_n 1, 1) := by decide +kernel
theorem dX6_focusOn_2 : decode cX6_focusOn 2 = .ok (.invokevirtual 62, 3) := by decide +kernel
theorem dX6_focusOn_5 : decode cX6_focusOn 5 = .ok (.aload_n 0, 1) := by decide +kernel
theorem dX6_focusOn_6 : decode cX6_focusOn 6 = .ok (.getfield 21, 3) := by decide +kernel
theorem dX6_focusOn_9 : decode cX6_focusOn 9 = .ok (.iload_n 1, 1) := by decide +kernel
theorem dX6_focusOn_10 : decode cX6_focusOn 10 = .ok (.invokevirtual 195, 3) := by decide +kernel
theorem dX6_focusOn_13 : decode cX6_focusOn 13 = .ok (.ifCond .ne 13, 3) := by decide +kernel
theorem dX6_focusOn_16 : decode cX6_focusOn 16 = .ok (.new 87, 3) := by decide +kernel
theorem dX6_focusOn_19 : decode cX6_focusOn 19 = .ok (.dup, 1) := by decide +kernel
theorem dX6_focusOn_20 : decode cX6_focusOn 20 = .ok (.ldc 206, 2) := by decide +kernel
theorem dX6_focusOn_22 : decode cX6_focusOn 22 = .ok (.invokespecial 91, 3) := by decide +kernel
theorem dX6_focusOn_25 : decode cX6_focusOn 25 = .ok (.athrow, 1) := by decide +kernel
theorem dX6_focusOn_26 : decode cX6_focusOn 26 = .ok (.aload_n 0, 1) := by decide +kernel
theorem dX6_focusOn_27 : decode cX6_focusOn 27 = .ok (.invokevirtual 92, 3) := by decide +kernel
theorem dX6_focusOn_30 : decode cX6_focusOn 30 = .ok (.aload_n 0, 1) := by decide +kernel
theorem dX6_focusOn_31 : decode cX6_focusOn 31 = .ok (.getfield 21, 3) := by decide +kernel
theorem dX6_focusOn_34 : decode cX6_focusOn 34 = .ok (.invokevirtual 203, 3) := by decide +kernel
theorem dX6_focusOn_37 : decode cX6_focusOn 37 = .ok (.istore_n 2, 1) := by decide +kernel
theorem dX6_focusOn_38 : decode cX6_focusOn 38 = .ok (.aload_n 0, 1) := by decide +kernel
theorem dX6_focusOn_39 : decode cX6_focusOn 39 = .ok (.getfield 10, 3) := by decide +kernel
theorem dX6_focusOn_42 : decode cX6_focusOn 42 = .ok (.iload_n 1, 1) := by decide +kernel
theorem dX6_focusOn_43 : decode cX6_focusOn 43 = .ok (.aload_n 0, 1) := by decide +kernel
theorem dX6_focusOn_44 : decode cX6_focusOn 44 = .ok (.getfield 55, 3) := by decide +kernel
theorem dX6_focusOn_47 : decode cX6_focusOn 47 = .ok (.invokevirtual 208, 3) := by decide +kernel
theorem dX6_focusOn_50 : decode cX6_focusOn 50 = .ok (.iload_n 2, 1) := by decide +kernel
theorem dX6_focusOn_51 : decode cX6_focusOn 51 = .ok (.ireturn, 1) := by decide +kernel
abbrev rmX6_focusOn : Room := { frames := 66, cells := 2, slots := 12, locals := 1665 }
noncomputable def fX6_focusOn (n : Nat) (Sh : Sp) (M : Mm) (a0 : Nat) (a1 : Int32) : Option ((String ⊕ Int32) × Mm) :=
  xb (fX6_requireNode n Sh M a0 a1) (fun E => some (Sum.inl E, M)) <|
  tF M a0 1 fun b3 =>
  chk (Sh b3 = some (.inl 2)) <|
  (fX2_admits n Sh M b3 a1).bind fun r4 =>
  if r4 = 0 then
    some (Sum.inl "java/lang/IllegalStateException", M)
  else
    (fX6_keepRecord n Sh M a0).bind fun r5 =>
    tF r5 a0 1 fun b6 =>
    chk (Sh b6 = some (.inl 2)) <|
    (fX2_focusNow n Sh r5 b6).bind fun r7 =>
    tF r5 a0 0 fun b8 =>
    tF r5 a0 6 fun b9 =>
    chk (Sh b8 = some (.inl 3)) <|
    (fX3_giveFocus n Sh r5 b8 a1 b9).bind fun r10 =>
    some (Sum.inr r7, r10)
set_option maxRecDepth 100000 in
set_option maxHeartbeats 4000000 in
theorem kX6_focusOn {l : Launch} {G : Gt} {n : Nat} {Sh : Sp} {M : Mm} {a0 : Nat} {a1 : Int32} (hT : Sh a0 = some (.inl 6)) (hfl : l.stackTraces = false) {r : ((String ⊕ Int32) × Mm)} (h : fX6_focusOn n Sh M a0 a1 = some r) : CtX l yX6_focusOn cX6_focusOn 3 (some .int) rmX6_focusOn G Sh M [.ref a0, .int a1] (rsI r.1) r.2 := by
  refine CtX.of (by decide) (Nat.le_of_ble_eq_true rfl) ?_
  intro p e s m args below meth c ls C hK hX hP hS hb hlk hr hno hl
  replace hl : lv_has ls 3 [(0, .ref a0), (1, .int a1)] := hl
  unfold fX6_focusOn at h
  refine lv_aload_n C.1 C.2.1 dX6_focusOn_0 rfl (lv_at hl 0 rfl) ?_
  refine lv_iload_n C.1 C.2.1 dX6_focusOn_1 rfl (lv_at hl 1 rfl) ?_
  obtain ⟨z2, hc, hE, h⟩ := xb_some h
  refine r_VX0 C hno hlk hK hX hb hP hS hl.1 (kX6_requireNode hT hfl hc) hT cl_6 wd_671 mo_X6_requireNode wd_673 wd_12 ⟨Nat.le_of_ble_eq_true rfl, Nat.le_of_ble_eq_true rfl⟩ ⟨Nat.le_of_ble_eq_true rfl, Nat.le_of_ble_eq_true rfl⟩ rfl (rest := []) rfl (Nat.le_of_ble_eq_true rfl) dX6_focusOn_2 (k1 := 1) (k2 := 6) ⟨Nat.le_of_ble_eq_true rfl, Nat.le_of_ble_eq_true rfl⟩ ⟨Nat.le_of_ble_eq_true rfl, Nat.le_of_ble_eq_true rfl⟩ (fun E q => by have e := Option.some.inj (hE E q); rw [← e]; exact ⟨rfl, rfl⟩) (fun H locs hz hP hS => ?_)
  replace h := h hz
  refine lv_aload_n C.1 C.2.1 dX6_focusOn_5 rfl (lv_at hl 0 rfl) ?_
  refine r_tF C hK hP hT cl_6 (k := 1) (by decide) wd_265 rfl dX6_focusOn_6 h (fun b3 h => ?_)
  refine lv_iload_n C.1 C.2.1 dX6_focusOn_9 rfl (lv_at hl 1 rfl) ?_
  obtain ⟨hs, h⟩ := chk_some h
  obtain ⟨r4, hc, h⟩ := bS h
  refine r_V1 C hK hX hb hP hS hl.1 (kX2_admits (hs) hc) hs cl_2 wd_965 mo_X2_admits wd_387 wd_388 ⟨Nat.le_of_ble_eq_true rfl, Nat.le_of_ble_eq_true rfl⟩ ⟨Nat.le_of_ble_eq_true rfl, Nat.le_of_ble_eq_true rfl⟩ rfl (rest := []) rfl (Nat.le_of_ble_eq_true rfl) dX6_focusOn_10 (fun H locs hP hS => ?_)
  refine b_ne (tgt := 26) C dX6_focusOn_13 (by decide) h (fun h => ?_) (fun h => ?_)
  · have e := Option.some.inj h
    subst e
    exact x_new (rest := []) (text := "the node cannot have the focus") C hfl hno hX hP hS hlk hl.1 (by decide +kernel) wd_765 wd_88 (by decide +kernel) xw_91 xg_91 dX6_focusOn_16 dX6_focusOn_19 dX6_focusOn_20 dX6_focusOn_22 dX6_focusOn_25 (by decide) (Nat.le_of_ble_eq_true rfl) (Nat.le_of_ble_eq_true rfl) (Nat.le_of_ble_eq_true rfl) (Nat.le_of_ble_eq_true rfl) (Nat.le_of_ble_eq_true rfl) rfl
  · refine lv_aload_n C.1 C.2.1 dX6_focusOn_26 rfl (lv_at hl 0 rfl) ?_
    obtain ⟨r5, hc, h⟩ := bS h
    refine r_V0 C hK hX hb hP hS hl.1 (kX6_keepRecord (hT) hc) hT cl_6 wd_394 mo_X6_keepRecord wd_396 wd_3 ⟨Nat.le_of_ble_eq_true rfl, Nat.le_of_ble_eq_true rfl⟩ ⟨Nat.le_of_ble_eq_true rfl, Nat.le_of_ble_eq_true rfl⟩ rfl (rest := []) rfl (Nat.le_of_ble_eq_true rfl) dX6_focusOn_27 (fun H locs hP hS => ?_)
    refine lv_aload_n C.1 C.2.1 dX6_focusOn_30 rfl (lv_at hl 0 rfl) ?_
    refine r_tF C hK hP hT cl_6 (k := 1) (by decide) wd_265 rfl dX6_focusOn_31 h (fun b6 h => ?_)
    obtain ⟨hs, h⟩ := chk_some h
    obtain ⟨r7, hc, h⟩ := bS h
    refine r_V1 C hK hX hb hP hS hl.1 (kX2_focusNow (hs) hc) hs cl_2 wd_382 mo_X2_focusNow wd_383 wd_384 ⟨Nat.le_of_ble_eq_true rfl, Nat.le_of_ble_eq_true rfl⟩ ⟨Nat.le_of_ble_eq_true rfl, Nat.le_of_ble_eq_true rfl⟩ rfl (rest := []) rfl (Nat.le_of_ble_eq_true rfl) dX6_focusOn_34 (fun H locs hP hS => ?_)
    refine lv_istore_n (lv' := [(2, .int r7), (0, .ref a0), (1, .int a1)]) C.1 C.2.1 dX6_focusOn_37 rfl hl (by decide) rfl (fun ls hl => ?_)
    refine lv_aload_n C.1 C.2.1 dX6_focusOn_38 rfl (lv_at hl 1 rfl) ?_
    refine r_tF C hK hP hT cl_6 (k := 0) (by decide) wd_264 rfl dX6_focusOn_39 h (fun b8 h => ?_)
    refine lv_iload_n C.1 C.2.1 dX6_focusOn_42 rfl (lv_at hl 2 rfl) ?_
    refine lv_aload_n C.1 C.2.1 dX6_focusOn_43 rfl (lv_at hl 1 rfl) ?_
    refine r_tF C hK hP hT cl_6 (k := 6) (by decide) wd_270 rfl dX6_focusOn_44 h (fun b9 h => ?_)
    obtain ⟨hs, h⟩ := chk_some h
    obtain ⟨r10, hc, h⟩ := bS h
    refine r_V0 C hK hX hb hP hS hl.1 (kX3_giveFocus (hs) hc) hs cl_3 wd_433 mo_X3_giveFocus wd_434 wd_435 ⟨Nat.le_of_ble_eq_true rfl, Nat.le_of_ble_eq_true rfl⟩ ⟨Nat.le_of_ble_eq_true rfl, Nat.le_of_ble_eq_true rfl⟩ rfl (rest := []) rfl (Nat.le_of_ble_eq_true rfl) dX6_focusOn_47 (fun H locs hP hS => ?_)
    refine lv_iload_n C.1 C.2.1 dX6_focusOn_50 rfl (lv_at hl 0 rfl) ?_
    have e := Option.some.inj h
    refine W.widen (k := 2) (n := 12) (Nat.le_of_ble_eq_true rfl) (Nat.le_of_ble_eq_true rfl) ?_
    exact x_i C hlk hP hS hr e dX6_focusOn_51
theorem dX6_step_0 : decode cX6_step 0 = .ok (.aload_n 0, 1) := by decide +kernel
theorem dX6_step_1 : decode cX6_step 1 = .ok (.invokevirtual 92, 3) := by decide +kernel
theorem dX6_step_4 : decode cX6_step 4 = .ok (.aload_n 0, 1) := by decide +kernel
theorem dX6_step_5 : decode cX6_step 5 = .ok (.getfield 21, 3) := by decide +kernel
theorem dX6_step_8 : decode cX6_step 8 = .ok (.invokevirtual 199, 3) := by decide +kernel
theorem dX6_step_11 : decode cX6_step 11 = .ok (.aload_n 0, 1) := by decide +kernel
theorem dX6_step_12 : decode cX6_step 12 = .ok (.getfield 21, 3) := by decide +kernel
theorem dX6_step_15 : decode cX6_step 15 = .ok (.aload_n 0, 1) := by decide +kernel
theorem dX6_step_16 : decode cX6_step 16 = .ok (.getfield 21, 3) := by decide +kernel
theorem dX6_step_19 : decode cX6_step 19 = .ok (.invokevirtual 203, 3) := by decide +kernel
theorem dX6_step_22 : decode cX6_step 22 = .ok (.iload_n 1, 1) := by decide +kernel
theorem dX6_step_23 : decode cX6_step 23 = .ok (.invokevirtual 211, 3) := by decide +kernel
theorem dX6_step_26 : decode cX6_step 26 = .ok (.istore_n 2, 1) := by decide +kernel
theorem dX6_step_27 : decode cX6_step 27 = .ok (.iload_n 2, 1) := by decide +kernel
theorem dX6_step_28 : decode cX6_step 28 = .ok (.iconst (-1), 1) := by decide +kernel
theorem dX6_step_29 : decode cX6_step 29 = .ok (.if_icmp .eq 15, 3) := by decide +kernel
theorem dX6_step_32 : decode cX6_step 32 = .ok (.aload_n 0, 1) := by decide +kernel
theorem dX6_step_33 : decode cX6_step 33 = .ok (.getfield 10, 3) := by decide +kernel
theorem dX6_step_36 : decode cX6_step 36 = .ok (.iload_n 2, 1) := by decide +kernel
theorem dX6_step_37 : decode cX6_step 37 = .ok (.aload_n 0, 1) := by decide +kernel
theorem dX6_step_38 : decode cX6_step 38 = .ok (.getfield 55, 3) := by decide +kernel
theorem dX6_step_41 : decode cX6_step 41 = .ok (.invokevirtual 208, 3) := by decide +kernel
theorem dX6_step_44 : decode cX6_step 44 = .ok (.iload_n 2, 1) := by decide +kernel
theorem dX6_step_45 : decode cX6_step 45 = .ok (.ireturn, 1) := by decide +kernel
abbrev rmX6_step : Room := { frames := 66, cells := 0, slots := 0, locals := 1665 }
noncomputable def fX6_step (n : Nat) (Sh : Sp) (M : Mm) (a0 : Nat) (a1 : Int32) : Option (Int32 × Mm) :=
  (fX6_keepRecord n Sh M a0).bind fun r1 =>
  tF r1 a0 1 fun b2 =>
  chk (Sh b2 = some (.inl 2)) <|
  (fX2_fill n Sh r1 b2).bind fun r3 =>
  tF r3 a0 1 fun b4 =>
  tF r3 a0 1 fun b5 =>
  chk (Sh b5 = some (.inl 2)) <|
  (fX2_focusNow n Sh r3 b5).bind fun r6 =>
  chk (Sh b4 = some (.inl 2)) <|
  (fX2_beside n Sh r3 b4 r6 a1).bind fun r7 =>
  if r7 = (-1) then
    some (r7, r3)
  else
    tF r3 a0 0 fun b8 =>
    tF r3 a0 6 fun b9 =>
    chk (Sh b8 = some (.inl 3)) <|
    (fX3_giveFocus n Sh r3 b8 r7 b9).bind fun r10 =>
    some (r7, r10)
set_option maxRecDepth 100000 in
set_option maxHeartbeats 4000000 in
theorem kX6_step {l : Launch} {G : Gt} {n : Nat} {Sh : Sp} {M : Mm} {a0 : Nat} {a1 : Int32} (hT : Sh a0 = some (.inl 6)) {r : (Int32 × Mm)} (h : fX6_step n Sh M a0 a1 = some r) : Ct l yX6_step cX6_step 3 (some .int) rmX6_step G Sh M [.ref a0, .int a1] (some (.int r.1)) r.2 := by
  refine Ct.of (by decide) (Nat.le_of_ble_eq_true rfl) ?_
  intro p e s m args below meth c ls C hK hX hP hS hb hlk hr hl
  replace hl : lv_has ls 3 [(0, .ref a0), (1, .int a1)] := hl
  unfold fX6_step at h
  refine lv_aload_n C.1 C.2.1 dX6_step_0 rfl (lv_at hl 0 rfl) ?_
  obtain ⟨r1, hc, h⟩ := bS h
  refine r_V0 C hK hX hb hP hS hl.1 (kX6_keepRecord (hT) hc) hT cl_6 wd_394 mo_X6_keepRecord wd_396 wd_3 ⟨Nat.le_of_ble_eq_true rfl, Nat.le_of_ble_eq_true rfl⟩ ⟨Nat.le_of_ble_eq_true rfl, Nat.le_of_ble_eq_true rfl⟩ rfl (rest := []) rfl (Nat.le_of_ble_eq_true rfl) dX6_step_1 (fun H locs hP hS => ?_)
  refine lv_aload_n C.1 C.2.1 dX6_step_4 rfl (lv_at hl 0 rfl) ?_
  refine r_tF C hK hP hT cl_6 (k := 1) (by decide) wd_265 rfl dX6_step_5 h (fun b2 h => ?_)
  obtain ⟨hs, h⟩ := chk_some h
  obtain ⟨r3, hc, h⟩ := bS h
  refine r_V0 C hK hX hb hP hS hl.1 (kX2_fill (hs) hc) hs cl_2 wd_333 mo_X2_fill wd_334 wd_335 ⟨Nat.le_of_ble_eq_true rfl, Nat.le_of_ble_eq_true rfl⟩ ⟨Nat.le_of_ble_eq_true rfl, Nat.le_of_ble_eq_true rfl⟩ rfl (rest := []) rfl (Nat.le_of_ble_eq_true rfl) dX6_step_8 (fun H locs hP hS => ?_)
  refine lv_aload_n C.1 C.2.1 dX6_step_11 rfl (lv_at hl 0 rfl) ?_
  refine r_tF C hK hP hT cl_6 (k := 1) (by decide) wd_265 rfl dX6_step_12 h (fun b4 h => ?_)
  refine lv_aload_n C.1 C.2.1 dX6_step_15 rfl (lv_at hl 0 rfl) ?_
  refine r_tF C hK hP hT cl_6 (k := 1) (by decide) wd_265 rfl dX6_step_16 h (fun b5 h => ?_)
  obtain ⟨hs, h⟩ := chk_some h
  obtain ⟨r6, hc, h⟩ := bS h
  refine r_V1 C hK hX hb hP hS hl.1 (kX2_focusNow (hs) hc) hs cl_2 wd_382 mo_X2_focusNow wd_383 wd_384 ⟨Nat.le_of_ble_eq_true rfl, Nat.le_of_ble_eq_true rfl⟩ ⟨Nat.le_of_ble_eq_true rfl, Nat.le_of_ble_eq_true rfl⟩ rfl (rest := [.ref b4]) rfl (Nat.le_of_ble_eq_true rfl) dX6_step_19 (fun H locs hP hS => ?_)
  refine lv_iload_n C.1 C.2.1 dX6_step_22 rfl (lv_at hl 1 rfl) ?_
  obtain ⟨hs, h⟩ := chk_some h
  obtain ⟨r7, hc, h⟩ := bS h
  refine r_V1 C hK hX hb hP hS hl.1 (kX2_beside (hs) hc) hs cl_2 wd_424 mo_X2_beside wd_425 wd_426 ⟨Nat.le_of_ble_eq_true rfl, Nat.le_of_ble_eq_true rfl⟩ ⟨Nat.le_of_ble_eq_true rfl, Nat.le_of_ble_eq_true rfl⟩ rfl (rest := []) rfl (Nat.le_of_ble_eq_true rfl) dX6_step_23 (fun H locs hP hS => ?_)
  refine lv_istore_n (lv' := [(2, .int r7), (0, .ref a0), (1, .int a1)]) C.1 C.2.1 dX6_step_26 rfl hl (by decide) rfl (fun ls hl => ?_)
  refine lv_iload_n C.1 C.2.1 dX6_step_27 rfl (lv_at hl 0 rfl) ?_
  refine lv_iconst (v := (-1)) C.1 C.2.1 dX6_step_28 (by decide) ?_
  refine b_ieq (tgt := 44) C dX6_step_29 (by decide) h (fun h => ?_) (fun h => ?_)
  · refine lv_iload_n C.1 C.2.1 dX6_step_44 rfl (lv_at hl 0 rfl) ?_
    have e := Option.some.inj h
    exact q_i C hlk hP hS hr (by rw [← e]) (by rw [← e]) dX6_step_45
  · refine lv_aload_n C.1 C.2.1 dX6_step_32 rfl (lv_at hl 1 rfl) ?_
    refine r_tF C hK hP hT cl_6 (k := 0) (by decide) wd_264 rfl dX6_step_33 h (fun b8 h => ?_)
    refine lv_iload_n C.1 C.2.1 dX6_step_36 rfl (lv_at hl 0 rfl) ?_
    refine lv_aload_n C.1 C.2.1 dX6_step_37 rfl (lv_at hl 1 rfl) ?_
    refine r_tF C hK hP hT cl_6 (k := 6) (by decide) wd_270 rfl dX6_step_38 h (fun b9 h => ?_)
    obtain ⟨hs, h⟩ := chk_some h
    obtain ⟨r10, hc, h⟩ := bS h
    refine r_V0 C hK hX hb hP hS hl.1 (kX3_giveFocus (hs) hc) hs cl_3 wd_433 mo_X3_giveFocus wd_434 wd_435 ⟨Nat.le_of_ble_eq_true rfl, Nat.le_of_ble_eq_true rfl⟩ ⟨Nat.le_of_ble_eq_true rfl, Nat.le_of_ble_eq_true rfl⟩ rfl (rest := []) rfl (Nat.le_of_ble_eq_true rfl) dX6_step_41 (fun H locs hP hS => ?_)
    refine lv_iload_n C.1 C.2.1 dX6_step_44 rfl (lv_at hl 0 rfl) ?_
    have e := Option.some.inj h
    exact q_i C hlk hP hS hr (by rw [← e]) (by rw [← e]) dX6_step_45
theorem dX6_requireDialog_0 : decode cX6_requireDialog 0 = .ok (.aload_n 0, 1) := by decide +kernel
theorem dX6_requireDialog_1 : decode cX6_requireDialog 1 = .ok (.iload_n 1, 1) := by decide +kernel
theorem dX6_requireDialog_2 : decode cX6_requireDialog 2 = .ok (.invokevirtual 62, 3) := by decide +kernel
theorem dX6_requireDialog_5 : decode cX6_requireDialog 5 = .ok (.aload_n 0, 1) := by decide +kernel
theorem dX6_requireDialog_6 : decode cX6_requireDialog 6 = .ok (.getfield 10, 3) := by decide +kernel
theorem dX6_requireDialog_9 : decode cX6_requireDialog 9 = .ok (.getfield 27, 3) := by decide +kernel
theorem dX6_requireDialog_12 : decode cX6_requireDialog 12 = .ok (.iload_n 1, 1) := by decide +kernel
theorem dX6_requireDialog_13 : decode cX6_requireDialog 13 = .ok (.invokevirtual 158, 3) := by decide +kernel
theorem dX6_requireDialog_16 : decode cX6_requireDialog 16 = .ok (.bipush 6, 2) := by decide +kernel
theorem dX6_requireDialog_18 : decode cX6_requireDialog 18 = .ok (.if_icmp .eq 14, 3) := by decide +kernel
theorem dX6_requireDialog_21 : decode cX6_requireDialog 21 = .ok (.new 78, 3) := by decide +kernel
theorem dX6_requireDialog_24 : decode cX6_requireDialog 24 = .ok (.dup, 1) := by decide +kernel
theorem dX6_requireDialog_25 : decode cX6_requireDialog 25 = .ok (.ldc_w 339, 3) := by decide +kernel
theorem dX6_requireDialog_28 : decode cX6_requireDialog 28 = .ok (.invokespecial 82, 3) := by decide +kernel
theorem dX6_requireDialog_31 : decode cX6_requireDialog 31 = .ok (.athrow, 1) := by decide +kernel
theorem dX6_requireDialog_32 : decode cX6_requireDialog 32 = .ok (.return_, 1) := by decide +kernel
abbrev rmX6_requireDialog : Room := { frames := 7, cells := 2, slots := 12, locals := 121 }
noncomputable def fX6_requireDialog (n : Nat) (Sh : Sp) (M : Mm) (a0 : Nat) (a1 : Int32) : Option (String ⊕ Unit) :=
  xb (fX6_requireNode n Sh M a0 a1) (fun E => some (Sum.inl E)) <|
  tF M a0 0 fun b3 =>
  gF Sh M b3 3 0 fun b4 =>
  chk (Sh b4 = some (.inl 4)) <|
  (fX4_roleOf n Sh M b4 a1).bind fun r5 =>
  if r5 = 6 then
    some (Sum.inr ())
  else
    some (Sum.inl "java/lang/IllegalArgumentException")
set_option maxRecDepth 100000 in
set_option maxHeartbeats 4000000 in
theorem kX6_requireDialog {l : Launch} {G : Gt} {n : Nat} {Sh : Sp} {M : Mm} {a0 : Nat} {a1 : Int32} (hT : Sh a0 = some (.inl 6)) (hfl : l.stackTraces = false) {r : (String ⊕ Unit)} (h : fX6_requireDialog n Sh M a0 a1 = some r) : CtX l yX6_requireDialog cX6_requireDialog 2 none rmX6_requireDialog G Sh M [.ref a0, .int a1] (rsU r) M := by
  refine CtX.of (by decide) (Nat.le_of_ble_eq_true rfl) ?_
  intro p e s m args below meth c ls C hK hX hP hS hb hlk hr hno hl
  replace hl : lv_has ls 2 [(0, .ref a0), (1, .int a1)] := hl
  unfold fX6_requireDialog at h
  refine lv_aload_n C.1 C.2.1 dX6_requireDialog_0 rfl (lv_at hl 0 rfl) ?_
  refine lv_iload_n C.1 C.2.1 dX6_requireDialog_1 rfl (lv_at hl 1 rfl) ?_
  obtain ⟨z2, hc, hE, h⟩ := xb_some h
  refine r_VX0 C hno hlk hK hX hb hP hS hl.1 (kX6_requireNode hT hfl hc) hT cl_6 wd_671 mo_X6_requireNode wd_673 wd_12 ⟨Nat.le_of_ble_eq_true rfl, Nat.le_of_ble_eq_true rfl⟩ ⟨Nat.le_of_ble_eq_true rfl, Nat.le_of_ble_eq_true rfl⟩ rfl (rest := []) rfl (Nat.le_of_ble_eq_true rfl) dX6_requireDialog_2 (k1 := 1) (k2 := 6) ⟨Nat.le_of_ble_eq_true rfl, Nat.le_of_ble_eq_true rfl⟩ ⟨Nat.le_of_ble_eq_true rfl, Nat.le_of_ble_eq_true rfl⟩ (fun E q => by have e := Option.some.inj (hE E q); rw [← e]; exact ⟨rfl, rfl⟩) (fun H locs hz hP hS => ?_)
  replace h := h hz
  refine lv_aload_n C.1 C.2.1 dX6_requireDialog_5 rfl (lv_at hl 0 rfl) ?_
  refine r_tF C hK hP hT cl_6 (k := 0) (by decide) wd_264 rfl dX6_requireDialog_6 h (fun b3 h => ?_)
  refine r_gFN C hK hP cl_3 (k := 0) (by decide) (hX.nw wd_209) rfl dX6_requireDialog_9 h (fun b4 h => ?_)
  refine lv_iload_n C.1 C.2.1 dX6_requireDialog_12 rfl (lv_at hl 1 rfl) ?_
  obtain ⟨hs, h⟩ := chk_some h
  obtain ⟨r5, hc, h⟩ := bS h
  refine r_V1 C hK hX hb hP hS hl.1 (kX4_roleOf (hs) hc) hs cl_4 wd_900 mo_X4_roleOf wd_359 wd_360 ⟨Nat.le_of_ble_eq_true rfl, Nat.le_of_ble_eq_true rfl⟩ ⟨Nat.le_of_ble_eq_true rfl, Nat.le_of_ble_eq_true rfl⟩ rfl (rest := []) rfl (Nat.le_of_ble_eq_true rfl) dX6_requireDialog_13 (fun H locs hP hS => ?_)
  refine lv_bipush (v := 6) C.1 C.2.1 dX6_requireDialog_16 (by decide) ?_
  refine b_ieq (tgt := 32) C dX6_requireDialog_18 (by decide) h (fun h => ?_) (fun h => ?_)
  · have e := Option.some.inj h
    refine W.widen (k := 2) (n := 12) (Nat.le_of_ble_eq_true rfl) (Nat.le_of_ble_eq_true rfl) ?_
    exact x_vr C hlk hP hS hr e dX6_requireDialog_32
  · have e := Option.some.inj h
    subst e
    exact x_newW (rest := []) (text := "the node is no dialog") C hfl hno hX hP hS hlk hl.1 (by decide +kernel) wd_745 wd_87 (by decide +kernel) xw_82 xg_82 dX6_requireDialog_21 dX6_requireDialog_24 dX6_requireDialog_25 dX6_requireDialog_28 dX6_requireDialog_31 (by decide) (Nat.le_of_ble_eq_true rfl) (Nat.le_of_ble_eq_true rfl) (Nat.le_of_ble_eq_true rfl) (Nat.le_of_ble_eq_true rfl) (Nat.le_of_ble_eq_true rfl) rfl
