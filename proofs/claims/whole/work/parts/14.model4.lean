theorem dX7_setText_0 : decode cX7_setText 0 = .ok (.aload_n 0, 1) := by decide +kernel
theorem dX7_setText_1 : decode cX7_setText 1 = .ok (.aload_n 0, 1) := by decide +kernel
theorem dX7_setText_2 : decode cX7_setText 2 = .ok (.iload_n 1, 1) := by decide +kernel
theorem dX7_setText_3 : decode cX7_setText 3 = .ok (.invokevirtual 123, 3) := by decide +kernel
theorem dX7_setText_6 : decode cX7_setText 6 = .ok (.ifCond .ne 7, 3) := by decide +kernel
theorem dX7_setText_9 : decode cX7_setText 9 = .ok (.iconst 1, 1) := by decide +kernel
theorem dX7_setText_10 : decode cX7_setText 10 = .ok (.goto 16, 3) := by decide +kernel
theorem dX7_setText_13 : decode cX7_setText 13 = .ok (.aload_n 0, 1) := by decide +kernel
theorem dX7_setText_14 : decode cX7_setText 14 = .ok (.iload_n 1, 1) := by decide +kernel
theorem dX7_setText_15 : decode cX7_setText 15 = .ok (.invokevirtual 65, 3) := by decide +kernel
theorem dX7_setText_18 : decode cX7_setText 18 = .ok (.ifCond .eq 7, 3) := by decide +kernel
theorem dX7_setText_21 : decode cX7_setText 21 = .ok (.iconst 0, 1) := by decide +kernel
theorem dX7_setText_22 : decode cX7_setText 22 = .ok (.goto 4, 3) := by decide +kernel
theorem dX7_setText_25 : decode cX7_setText 25 = .ok (.iconst 2, 1) := by decide +kernel
theorem dX7_setText_26 : decode cX7_setText 26 = .ok (.putfield 29, 3) := by decide +kernel
theorem dX7_setText_29 : decode cX7_setText 29 = .ok (.aload_n 0, 1) := by decide +kernel
theorem dX7_setText_30 : decode cX7_setText 30 = .ok (.getfield 29, 3) := by decide +kernel
theorem dX7_setText_33 : decode cX7_setText 33 = .ok (.ifCond .eq 5, 3) := by decide +kernel
theorem dX7_setText_36 : decode cX7_setText 36 = .ok (.iconst 0, 1) := by decide +kernel
theorem dX7_setText_37 : decode cX7_setText 37 = .ok (.ireturn, 1) := by decide +kernel
theorem dX7_setText_38 : decode cX7_setText 38 = .ok (.aload_n 0, 1) := by decide +kernel
theorem dX7_setText_39 : decode cX7_setText 39 = .ok (.invokevirtual 133, 3) := by decide +kernel
theorem dX7_setText_42 : decode cX7_setText 42 = .ok (.aload_n 0, 1) := by decide +kernel
theorem dX7_setText_43 : decode cX7_setText 43 = .ok (.iload_n 1, 1) := by decide +kernel
theorem dX7_setText_44 : decode cX7_setText 44 = .ok (.bipush 12, 2) := by decide +kernel
theorem dX7_setText_46 : decode cX7_setText 46 = .ok (.bipush 14, 2) := by decide +kernel
theorem dX7_setText_48 : decode cX7_setText 48 = .ok (.invokevirtual 161, 3) := by decide +kernel
theorem dX7_setText_51 : decode cX7_setText 51 = .ok (.istore_n 2, 1) := by decide +kernel
theorem dX7_setText_52 : decode cX7_setText 52 = .ok (.iload_n 2, 1) := by decide +kernel
theorem dX7_setText_53 : decode cX7_setText 53 = .ok (.ifCond .eq 18, 3) := by decide +kernel
theorem dX7_setText_56 : decode cX7_setText 56 = .ok (.aload_n 0, 1) := by decide +kernel
theorem dX7_setText_57 : decode cX7_setText 57 = .ok (.iload_n 1, 1) := by decide +kernel
theorem dX7_setText_58 : decode cX7_setText 58 = .ok (.iconst 3, 1) := by decide +kernel
theorem dX7_setText_59 : decode cX7_setText 59 = .ok (.invokevirtual 40, 3) := by decide +kernel
theorem dX7_setText_62 : decode cX7_setText 62 = .ok (.iconst 1, 1) := by decide +kernel
theorem dX7_setText_63 : decode cX7_setText 63 = .ok (.if_icmp .ne 8, 3) := by decide +kernel
theorem dX7_setText_66 : decode cX7_setText 66 = .ok (.aload_n 0, 1) := by decide +kernel
theorem dX7_setText_67 : decode cX7_setText 67 = .ok (.iload_n 1, 1) := by decide +kernel
theorem dX7_setText_68 : decode cX7_setText 68 = .ok (.invokevirtual 155, 3) := by decide +kernel
theorem dX7_setText_71 : decode cX7_setText 71 = .ok (.aload_n 0, 1) := by decide +kernel
theorem dX7_setText_72 : decode cX7_setText 72 = .ok (.getfield 158, 3) := by decide +kernel
theorem dX7_setText_75 : decode cX7_setText 75 = .ok (.ireturn, 1) := by decide +kernel
abbrev rmX7_setText : Room := { frames := 10, cells := 0, slots := 0, locals := 246 }
noncomputable def fX7_setText_71 (n : Nat) (Sh : Sp) (a0 : Nat) (a1 : Int32) (M : Mm) : Option (Int32 × Mm) :=
  tI M a0 4 fun x1 =>
  some (x1, M)
noncomputable def fX7_setText_26 (n : Nat) (Sh : Sp) (a0 : Nat) (a1 : Int32) (M : Mm) (t0 : Nat) (t1 : Int32) : Option (Int32 × Mm) :=
  pI Sh M t0 7 5 t1 fun M2 =>
  tI M2 a0 5 fun x3 =>
  if x3 = 0 then
    (fX7_keep n Sh M2 a0).bind fun r4 =>
    (fX7_takes n Sh r4 a0 a1 12 14).bind fun r5 =>
    if r5.1 = 0 then
      fX7_setText_71 n Sh a0 a1 r5.2
    else
      (fX7_of n Sh r5.2 a0 a1 3).bind fun r6 =>
      if r6 = 1 then
        (fX7_announceChange n Sh r5.2 a0 a1).bind fun r7 =>
        fX7_setText_71 n Sh a0 a1 r7
      else
        fX7_setText_71 n Sh a0 a1 r5.2
  else
    some (0, M2)
noncomputable def fX7_setText (n : Nat) (Sh : Sp) (M : Mm) (a0 : Nat) (a1 : Int32) : Option (Int32 × Mm) :=
  (fX7_isNode n Sh M a0 a1).bind fun r8 =>
  if r8 = 0 then
    fX7_setText_26 n Sh a0 a1 M a0 1
  else
    (fX7_hasText n Sh M a0 a1).bind fun r9 =>
    if r9 = 0 then
      fX7_setText_26 n Sh a0 a1 M a0 2
    else
      fX7_setText_26 n Sh a0 a1 M a0 0
set_option maxRecDepth 100000 in
set_option maxHeartbeats 4000000 in
theorem kX7_setText {l : Launch} {G : Gt} {n : Nat} {Sh : Sp} {M : Mm} {a0 : Nat} {a1 : Int32} (hT : Sh a0 = some (.inl 7)) {r : (Int32 × Mm)} (h : fX7_setText n Sh M a0 a1 = some r) : Ct l yX7_setText cX7_setText 3 (some .int) rmX7_setText G Sh M [.ref a0, .int a1] (some (.int r.1)) r.2 := by
  refine Ct.of (by decide) (Nat.le_of_ble_eq_true rfl) ?_
  intro p e s m args below meth c ls C hK hX hP hS hb hlk hr hl
  replace hl : lv_has ls 3 [(0, .ref a0), (1, .int a1)] := hl
  have J71 : ∀ (M : Mm) (H : Heap) (locs : List Loc) (ls : Array Slot), HM G Sh M H → SS G s s.heap.size H locs → lv_has ls 3 [(0, .ref a0), (1, .int a1)] → fX7_setText_71 n Sh a0 a1 M = some r → W p l e rmX7_setText s m args below meth c H locs 0 0 (MQ below (QG G Sh r.2 (some (.int r.1))) args s rmX7_setText.cells rmX7_setText.slots (AA G)) (F0 m 71 ls []) := by
    intro M H locs ls hP hS hl h
    unfold fX7_setText_71 at h
    refine lv_aload_n C.1 C.2.1 dX7_setText_71 rfl (lv_at hl 0 rfl) ?_
    refine r_tI C hK hP hT cl_7 (k := 4) (by decide) wd_1148 rfl dX7_setText_72 h (fun x1 h => ?_)
    have e := Option.some.inj h
    exact q_i C hlk hP hS hr (by rw [← e]) (by rw [← e]) dX7_setText_75
  have J26 : ∀ (M : Mm) (t0 : Nat) (t1 : Int32) (H : Heap) (locs : List Loc) (ls : Array Slot), HM G Sh M H → SS G s s.heap.size H locs → lv_has ls 3 [(0, .ref a0), (1, .int a1)] → fX7_setText_26 n Sh a0 a1 M t0 t1 = some r → W p l e rmX7_setText s m args below meth c H locs 0 0 (MQ below (QG G Sh r.2 (some (.int r.1))) args s rmX7_setText.cells rmX7_setText.slots (AA G)) (F0 m 26 ls [.int t1, .ref t0]) := by
    intro M t0 t1 H locs ls hP hS hl h
    unfold fX7_setText_26 at h
    refine r_pI C hK hP hS cl_7 (k := 5) (by decide) wd_1149 rfl rfl (tyX7_ok 5 (by decide)) dX7_setText_26 h (fun M2 H locs h hP hS => ?_)
    refine lv_aload_n C.1 C.2.1 dX7_setText_29 rfl (lv_at hl 0 rfl) ?_
    refine r_tI C hK hP hT cl_7 (k := 5) (by decide) wd_1149 rfl dX7_setText_30 h (fun x3 h => ?_)
    refine b_eq (tgt := 38) C dX7_setText_33 (by decide) h (fun h => ?_) (fun h => ?_)
    · refine lv_aload_n C.1 C.2.1 dX7_setText_38 rfl (lv_at hl 0 rfl) ?_
      obtain ⟨r4, hc, h⟩ := bS h
      refine r_V0 C hK hX hb hP hS hl.1 (kX7_keep (hT) hc) hT cl_7 wd_1209 mo_X7_keep wd_1211 wd_27 ⟨Nat.le_of_ble_eq_true rfl, Nat.le_of_ble_eq_true rfl⟩ ⟨Nat.le_of_ble_eq_true rfl, Nat.le_of_ble_eq_true rfl⟩ rfl (rest := []) rfl (Nat.le_of_ble_eq_true rfl) dX7_setText_39 (fun H locs hP hS => ?_)
      refine lv_aload_n C.1 C.2.1 dX7_setText_42 rfl (lv_at hl 0 rfl) ?_
      refine lv_iload_n C.1 C.2.1 dX7_setText_43 rfl (lv_at hl 1 rfl) ?_
      refine lv_bipush (v := 12) C.1 C.2.1 dX7_setText_44 (by decide) ?_
      refine lv_bipush (v := 14) C.1 C.2.1 dX7_setText_46 (by decide) ?_
      obtain ⟨r5, hc, h⟩ := bS h
      refine r_V1 C hK hX hb hP hS hl.1 (kX7_takes (hT) hc) hT cl_7 wd_1358 mo_X7_takes wd_1360 wd_55 ⟨Nat.le_of_ble_eq_true rfl, Nat.le_of_ble_eq_true rfl⟩ ⟨Nat.le_of_ble_eq_true rfl, Nat.le_of_ble_eq_true rfl⟩ rfl (rest := []) rfl (Nat.le_of_ble_eq_true rfl) dX7_setText_48 (fun H locs hP hS => ?_)
      refine lv_istore_n (lv' := [(2, .int r5.1), (0, .ref a0), (1, .int a1)]) C.1 C.2.1 dX7_setText_51 rfl hl (by decide) rfl (fun ls hl => ?_)
      refine lv_iload_n C.1 C.2.1 dX7_setText_52 rfl (lv_at hl 0 rfl) ?_
      refine b_eq (tgt := 71) C dX7_setText_53 (by decide) h (fun h => ?_) (fun h => ?_)
      · exact J71 (r5.2) _ _ _ hP hS (lv_sub hl [1, 2] rfl) h
      · refine lv_aload_n C.1 C.2.1 dX7_setText_56 rfl (lv_at hl 1 rfl) ?_
        refine lv_iload_n C.1 C.2.1 dX7_setText_57 rfl (lv_at hl 2 rfl) ?_
        refine lv_iconst (v := 3) C.1 C.2.1 dX7_setText_58 (by decide) ?_
        obtain ⟨r6, hc, h⟩ := bS h
        refine r_V1 C hK hX hb hP hS hl.1 (kX7_of (hT) hc) hT cl_7 wd_1197 mo_X7_of wd_1199 wd_24 ⟨Nat.le_of_ble_eq_true rfl, Nat.le_of_ble_eq_true rfl⟩ ⟨Nat.le_of_ble_eq_true rfl, Nat.le_of_ble_eq_true rfl⟩ rfl (rest := []) rfl (Nat.le_of_ble_eq_true rfl) dX7_setText_59 (fun H locs hP hS => ?_)
        refine lv_iconst (v := 1) C.1 C.2.1 dX7_setText_62 (by decide) ?_
        refine b_ine (tgt := 71) C dX7_setText_63 (by decide) h (fun h => ?_) (fun h => ?_)
        · refine lv_aload_n C.1 C.2.1 dX7_setText_66 rfl (lv_at hl 1 rfl) ?_
          refine lv_iload_n C.1 C.2.1 dX7_setText_67 rfl (lv_at hl 2 rfl) ?_
          obtain ⟨r7, hc, h⟩ := bS h
          refine r_V0 C hK hX hb hP hS hl.1 (kX7_announceChange (hT) hc) hT cl_7 wd_1283 mo_X7_announceChange wd_1285 wd_38 ⟨Nat.le_of_ble_eq_true rfl, Nat.le_of_ble_eq_true rfl⟩ ⟨Nat.le_of_ble_eq_true rfl, Nat.le_of_ble_eq_true rfl⟩ rfl (rest := []) rfl (Nat.le_of_ble_eq_true rfl) dX7_setText_68 (fun H locs hP hS => ?_)
          exact J71 (r7) _ _ _ hP hS (lv_sub hl [1, 2] rfl) h
        · exact J71 (r5.2) _ _ _ hP hS (lv_sub hl [1, 2] rfl) h
    · refine lv_iconst (v := 0) C.1 C.2.1 dX7_setText_36 (by decide) ?_
      have e := Option.some.inj h
      exact q_i C hlk hP hS hr (by rw [← e]) (by rw [← e]) dX7_setText_37
  unfold fX7_setText at h
  refine lv_aload_n C.1 C.2.1 dX7_setText_0 rfl (lv_at hl 0 rfl) ?_
  refine lv_aload_n C.1 C.2.1 dX7_setText_1 rfl (lv_at hl 0 rfl) ?_
  refine lv_iload_n C.1 C.2.1 dX7_setText_2 rfl (lv_at hl 1 rfl) ?_
  obtain ⟨r8, hc, h⟩ := bS h
  refine r_V1 C hK hX hb hP hS hl.1 (kX7_isNode (hT) hc) hT cl_7 wd_1190 mo_X7_isNode wd_1192 wd_23 ⟨Nat.le_of_ble_eq_true rfl, Nat.le_of_ble_eq_true rfl⟩ ⟨Nat.le_of_ble_eq_true rfl, Nat.le_of_ble_eq_true rfl⟩ rfl (rest := [.ref a0]) rfl (Nat.le_of_ble_eq_true rfl) dX7_setText_3 (fun H locs hP hS => ?_)
  refine b_ne (tgt := 13) C dX7_setText_6 (by decide) h (fun h => ?_) (fun h => ?_)
  · refine lv_iconst (v := 1) C.1 C.2.1 dX7_setText_9 (by decide) ?_
    refine lv_goto (tgt := 26) C.1 C.2.1 dX7_setText_10 (by decide) ?_
    exact J26 (M) (a0) (1) _ _ _ hP hS (lv_sub hl [0, 1] rfl) h
  · refine lv_aload_n C.1 C.2.1 dX7_setText_13 rfl (lv_at hl 0 rfl) ?_
    refine lv_iload_n C.1 C.2.1 dX7_setText_14 rfl (lv_at hl 1 rfl) ?_
    obtain ⟨r9, hc, h⟩ := bS h
    refine r_V1 C hK hX hb hP hS hl.1 (kX7_hasText (hT) hc) hT cl_7 wd_1315 mo_X7_hasText wd_1317 wd_46 ⟨Nat.le_of_ble_eq_true rfl, Nat.le_of_ble_eq_true rfl⟩ ⟨Nat.le_of_ble_eq_true rfl, Nat.le_of_ble_eq_true rfl⟩ rfl (rest := [.ref a0]) rfl (Nat.le_of_ble_eq_true rfl) dX7_setText_15 (fun H locs hP hS => ?_)
    refine b_eq (tgt := 25) C dX7_setText_18 (by decide) h (fun h => ?_) (fun h => ?_)
    · refine lv_iconst (v := 2) C.1 C.2.1 dX7_setText_25 (by decide) ?_
      exact J26 (M) (a0) (2) _ _ _ hP hS (lv_sub hl [0, 1] rfl) h
    · refine lv_iconst (v := 0) C.1 C.2.1 dX7_setText_21 (by decide) ?_
      refine lv_goto (tgt := 26) C.1 C.2.1 dX7_setText_22 (by decide) ?_
      exact J26 (M) (a0) (0) _ _ _ hP hS (lv_sub hl [0, 1] rfl) h
theorem dX7_setLabel_0 : decode cX7_setLabel 0 = .ok (.aload_n 0, 1) := by decide +kernel
theorem dX7_setLabel_1 : decode cX7_setLabel 1 = .ok (.aload_n 0, 1) := by decide +kernel
theorem dX7_setLabel_2 : decode cX7_setLabel 2 = .ok (.iload_n 1, 1) := by decide +kernel
theorem dX7_setLabel_3 : decode cX7_setLabel 3 = .ok (.invokevirtual 123, 3) := by decide +kernel
theorem dX7_setLabel_6 : decode cX7_setLabel 6 = .ok (.ifCond .eq 7, 3) := by decide +kernel
theorem dX7_setLabel_9 : decode cX7_setLabel 9 = .ok (.iconst 0, 1) := by decide +kernel
theorem dX7_setLabel_10 : decode cX7_setLabel 10 = .ok (.goto 4, 3) := by decide +kernel
theorem dX7_setLabel_13 : decode cX7_setLabel 13 = .ok (.iconst 1, 1) := by decide +kernel
theorem dX7_setLabel_14 : decode cX7_setLabel 14 = .ok (.putfield 29, 3) := by decide +kernel
theorem dX7_setLabel_17 : decode cX7_setLabel 17 = .ok (.aload_n 0, 1) := by decide +kernel
theorem dX7_setLabel_18 : decode cX7_setLabel 18 = .ok (.getfield 29, 3) := by decide +kernel
theorem dX7_setLabel_21 : decode cX7_setLabel 21 = .ok (.ifCond .eq 5, 3) := by decide +kernel
theorem dX7_setLabel_24 : decode cX7_setLabel 24 = .ok (.iconst 0, 1) := by decide +kernel
theorem dX7_setLabel_25 : decode cX7_setLabel 25 = .ok (.ireturn, 1) := by decide +kernel
theorem dX7_setLabel_26 : decode cX7_setLabel 26 = .ok (.aload_n 0, 1) := by decide +kernel
theorem dX7_setLabel_27 : decode cX7_setLabel 27 = .ok (.invokevirtual 133, 3) := by decide +kernel
theorem dX7_setLabel_30 : decode cX7_setLabel 30 = .ok (.aload_n 0, 1) := by decide +kernel
theorem dX7_setLabel_31 : decode cX7_setLabel 31 = .ok (.iload_n 1, 1) := by decide +kernel
theorem dX7_setLabel_32 : decode cX7_setLabel 32 = .ok (.bipush 13, 2) := by decide +kernel
theorem dX7_setLabel_34 : decode cX7_setLabel 34 = .ok (.bipush 22, 2) := by decide +kernel
theorem dX7_setLabel_36 : decode cX7_setLabel 36 = .ok (.invokevirtual 161, 3) := by decide +kernel
theorem dX7_setLabel_39 : decode cX7_setLabel 39 = .ok (.istore_n 2, 1) := by decide +kernel
theorem dX7_setLabel_40 : decode cX7_setLabel 40 = .ok (.iload_n 2, 1) := by decide +kernel
theorem dX7_setLabel_41 : decode cX7_setLabel 41 = .ok (.ifCond .eq 18, 3) := by decide +kernel
theorem dX7_setLabel_44 : decode cX7_setLabel 44 = .ok (.aload_n 0, 1) := by decide +kernel
theorem dX7_setLabel_45 : decode cX7_setLabel 45 = .ok (.iload_n 1, 1) := by decide +kernel
theorem dX7_setLabel_46 : decode cX7_setLabel 46 = .ok (.iconst 3, 1) := by decide +kernel
theorem dX7_setLabel_47 : decode cX7_setLabel 47 = .ok (.invokevirtual 40, 3) := by decide +kernel
theorem dX7_setLabel_50 : decode cX7_setLabel 50 = .ok (.iconst 4, 1) := by decide +kernel
theorem dX7_setLabel_51 : decode cX7_setLabel 51 = .ok (.if_icmp .ne 8, 3) := by decide +kernel
theorem dX7_setLabel_54 : decode cX7_setLabel 54 = .ok (.aload_n 0, 1) := by decide +kernel
theorem dX7_setLabel_55 : decode cX7_setLabel 55 = .ok (.iload_n 1, 1) := by decide +kernel
theorem dX7_setLabel_56 : decode cX7_setLabel 56 = .ok (.invokevirtual 155, 3) := by decide +kernel
theorem dX7_setLabel_59 : decode cX7_setLabel 59 = .ok (.aload_n 0, 1) := by decide +kernel
theorem dX7_setLabel_60 : decode cX7_setLabel 60 = .ok (.getfield 158, 3) := by decide +kernel
theorem dX7_setLabel_63 : decode cX7_setLabel 63 = .ok (.ireturn, 1) := by decide +kernel
abbrev rmX7_setLabel : Room := { frames := 10, cells := 0, slots := 0, locals := 246 }
noncomputable def fX7_setLabel_59 (n : Nat) (Sh : Sp) (a0 : Nat) (a1 : Int32) (M : Mm) : Option (Int32 × Mm) :=
  tI M a0 4 fun x1 =>
  some (x1, M)
noncomputable def fX7_setLabel_14 (n : Nat) (Sh : Sp) (a0 : Nat) (a1 : Int32) (M : Mm) (t0 : Nat) (t1 : Int32) : Option (Int32 × Mm) :=
  pI Sh M t0 7 5 t1 fun M2 =>
  tI M2 a0 5 fun x3 =>
  if x3 = 0 then
    (fX7_keep n Sh M2 a0).bind fun r4 =>
    (fX7_takes n Sh r4 a0 a1 13 22).bind fun r5 =>
    if r5.1 = 0 then
      fX7_setLabel_59 n Sh a0 a1 r5.2
    else
      (fX7_of n Sh r5.2 a0 a1 3).bind fun r6 =>
      if r6 = 4 then
        (fX7_announceChange n Sh r5.2 a0 a1).bind fun r7 =>
        fX7_setLabel_59 n Sh a0 a1 r7
      else
        fX7_setLabel_59 n Sh a0 a1 r5.2
  else
    some (0, M2)
noncomputable def fX7_setLabel (n : Nat) (Sh : Sp) (M : Mm) (a0 : Nat) (a1 : Int32) : Option (Int32 × Mm) :=
  (fX7_isNode n Sh M a0 a1).bind fun r8 =>
  if r8 = 0 then
    fX7_setLabel_14 n Sh a0 a1 M a0 1
  else
    fX7_setLabel_14 n Sh a0 a1 M a0 0
set_option maxRecDepth 100000 in
set_option maxHeartbeats 4000000 in
theorem kX7_setLabel {l : Launch} {G : Gt} {n : Nat} {Sh : Sp} {M : Mm} {a0 : Nat} {a1 : Int32} (hT : Sh a0 = some (.inl 7)) {r : (Int32 × Mm)} (h : fX7_setLabel n Sh M a0 a1 = some r) : Ct l yX7_setLabel cX7_setLabel 3 (some .int) rmX7_setLabel G Sh M [.ref a0, .int a1] (some (.int r.1)) r.2 := by
  refine Ct.of (by decide) (Nat.le_of_ble_eq_true rfl) ?_
  intro p e s m args below meth c ls C hK hX hP hS hb hlk hr hl
  replace hl : lv_has ls 3 [(0, .ref a0), (1, .int a1)] := hl
  have J59 : ∀ (M : Mm) (H : Heap) (locs : List Loc) (ls : Array Slot), HM G Sh M H → SS G s s.heap.size H locs → lv_has ls 3 [(0, .ref a0), (1, .int a1)] → fX7_setLabel_59 n Sh a0 a1 M = some r → W p l e rmX7_setLabel s m args below meth c H locs 0 0 (MQ below (QG G Sh r.2 (some (.int r.1))) args s rmX7_setLabel.cells rmX7_setLabel.slots (AA G)) (F0 m 59 ls []) := by
    intro M H locs ls hP hS hl h
    unfold fX7_setLabel_59 at h
    refine lv_aload_n C.1 C.2.1 dX7_setLabel_59 rfl (lv_at hl 0 rfl) ?_
    refine r_tI C hK hP hT cl_7 (k := 4) (by decide) wd_1148 rfl dX7_setLabel_60 h (fun x1 h => ?_)
    have e := Option.some.inj h
    exact q_i C hlk hP hS hr (by rw [← e]) (by rw [← e]) dX7_setLabel_63
  have J14 : ∀ (M : Mm) (t0 : Nat) (t1 : Int32) (H : Heap) (locs : List Loc) (ls : Array Slot), HM G Sh M H → SS G s s.heap.size H locs → lv_has ls 3 [(0, .ref a0), (1, .int a1)] → fX7_setLabel_14 n Sh a0 a1 M t0 t1 = some r → W p l e rmX7_setLabel s m args below meth c H locs 0 0 (MQ below (QG G Sh r.2 (some (.int r.1))) args s rmX7_setLabel.cells rmX7_setLabel.slots (AA G)) (F0 m 14 ls [.int t1, .ref t0]) := by
    intro M t0 t1 H locs ls hP hS hl h
    unfold fX7_setLabel_14 at h
    refine r_pI C hK hP hS cl_7 (k := 5) (by decide) wd_1149 rfl rfl (tyX7_ok 5 (by decide)) dX7_setLabel_14 h (fun M2 H locs h hP hS => ?_)
    refine lv_aload_n C.1 C.2.1 dX7_setLabel_17 rfl (lv_at hl 0 rfl) ?_
    refine r_tI C hK hP hT cl_7 (k := 5) (by decide) wd_1149 rfl dX7_setLabel_18 h (fun x3 h => ?_)
    refine b_eq (tgt := 26) C dX7_setLabel_21 (by decide) h (fun h => ?_) (fun h => ?_)
    · refine lv_aload_n C.1 C.2.1 dX7_setLabel_26 rfl (lv_at hl 0 rfl) ?_
      obtain ⟨r4, hc, h⟩ := bS h
      refine r_V0 C hK hX hb hP hS hl.1 (kX7_keep (hT) hc) hT cl_7 wd_1209 mo_X7_keep wd_1211 wd_27 ⟨Nat.le_of_ble_eq_true rfl, Nat.le_of_ble_eq_true rfl⟩ ⟨Nat.le_of_ble_eq_true rfl, Nat.le_of_ble_eq_true rfl⟩ rfl (rest := []) rfl (Nat.le_of_ble_eq_true rfl) dX7_setLabel_27 (fun H locs hP hS => ?_)
      refine lv_aload_n C.1 C.2.1 dX7_setLabel_30 rfl (lv_at hl 0 rfl) ?_
      refine lv_iload_n C.1 C.2.1 dX7_setLabel_31 rfl (lv_at hl 1 rfl) ?_
      refine lv_bipush (v := 13) C.1 C.2.1 dX7_setLabel_32 (by decide) ?_
      refine lv_bipush (v := 22) C.1 C.2.1 dX7_setLabel_34 (by decide) ?_
      obtain ⟨r5, hc, h⟩ := bS h
      refine r_V1 C hK hX hb hP hS hl.1 (kX7_takes (hT) hc) hT cl_7 wd_1358 mo_X7_takes wd_1360 wd_55 ⟨Nat.le_of_ble_eq_true rfl, Nat.le_of_ble_eq_true rfl⟩ ⟨Nat.le_of_ble_eq_true rfl, Nat.le_of_ble_eq_true rfl⟩ rfl (rest := []) rfl (Nat.le_of_ble_eq_true rfl) dX7_setLabel_36 (fun H locs hP hS => ?_)
      refine lv_istore_n (lv' := [(2, .int r5.1), (0, .ref a0), (1, .int a1)]) C.1 C.2.1 dX7_setLabel_39 rfl hl (by decide) rfl (fun ls hl => ?_)
      refine lv_iload_n C.1 C.2.1 dX7_setLabel_40 rfl (lv_at hl 0 rfl) ?_
      refine b_eq (tgt := 59) C dX7_setLabel_41 (by decide) h (fun h => ?_) (fun h => ?_)
      · exact J59 (r5.2) _ _ _ hP hS (lv_sub hl [1, 2] rfl) h
      · refine lv_aload_n C.1 C.2.1 dX7_setLabel_44 rfl (lv_at hl 1 rfl) ?_
        refine lv_iload_n C.1 C.2.1 dX7_setLabel_45 rfl (lv_at hl 2 rfl) ?_
        refine lv_iconst (v := 3) C.1 C.2.1 dX7_setLabel_46 (by decide) ?_
        obtain ⟨r6, hc, h⟩ := bS h
        refine r_V1 C hK hX hb hP hS hl.1 (kX7_of (hT) hc) hT cl_7 wd_1197 mo_X7_of wd_1199 wd_24 ⟨Nat.le_of_ble_eq_true rfl, Nat.le_of_ble_eq_true rfl⟩ ⟨Nat.le_of_ble_eq_true rfl, Nat.le_of_ble_eq_true rfl⟩ rfl (rest := []) rfl (Nat.le_of_ble_eq_true rfl) dX7_setLabel_47 (fun H locs hP hS => ?_)
        refine lv_iconst (v := 4) C.1 C.2.1 dX7_setLabel_50 (by decide) ?_
        refine b_ine (tgt := 59) C dX7_setLabel_51 (by decide) h (fun h => ?_) (fun h => ?_)
        · refine lv_aload_n C.1 C.2.1 dX7_setLabel_54 rfl (lv_at hl 1 rfl) ?_
          refine lv_iload_n C.1 C.2.1 dX7_setLabel_55 rfl (lv_at hl 2 rfl) ?_
          obtain ⟨r7, hc, h⟩ := bS h
          refine r_V0 C hK hX hb hP hS hl.1 (kX7_announceChange (hT) hc) hT cl_7 wd_1283 mo_X7_announceChange wd_1285 wd_38 ⟨Nat.le_of_ble_eq_true rfl, Nat.le_of_ble_eq_true rfl⟩ ⟨Nat.le_of_ble_eq_true rfl, Nat.le_of_ble_eq_true rfl⟩ rfl (rest := []) rfl (Nat.le_of_ble_eq_true rfl) dX7_setLabel_56 (fun H locs hP hS => ?_)
          exact J59 (r7) _ _ _ hP hS (lv_sub hl [1, 2] rfl) h
        · exact J59 (r5.2) _ _ _ hP hS (lv_sub hl [1, 2] rfl) h
    · refine lv_iconst (v := 0) C.1 C.2.1 dX7_setLabel_24 (by decide) ?_
      have e := Option.some.inj h
      exact q_i C hlk hP hS hr (by rw [← e]) (by rw [← e]) dX7_setLabel_25
  unfold fX7_setLabel at h
  refine lv_aload_n C.1 C.2.1 dX7_setLabel_0 rfl (lv_at hl 0 rfl) ?_
  refine lv_aload_n C.1 C.2.1 dX7_setLabel_1 rfl (lv_at hl 0 rfl) ?_
  refine lv_iload_n C.1 C.2.1 dX7_setLabel_2 rfl (lv_at hl 1 rfl) ?_
  obtain ⟨r8, hc, h⟩ := bS h
  refine r_V1 C hK hX hb hP hS hl.1 (kX7_isNode (hT) hc) hT cl_7 wd_1190 mo_X7_isNode wd_1192 wd_23 ⟨Nat.le_of_ble_eq_true rfl, Nat.le_of_ble_eq_true rfl⟩ ⟨Nat.le_of_ble_eq_true rfl, Nat.le_of_ble_eq_true rfl⟩ rfl (rest := [.ref a0]) rfl (Nat.le_of_ble_eq_true rfl) dX7_setLabel_3 (fun H locs hP hS => ?_)
  refine b_eq (tgt := 13) C dX7_setLabel_6 (by decide) h (fun h => ?_) (fun h => ?_)
  · refine lv_iconst (v := 1) C.1 C.2.1 dX7_setLabel_13 (by decide) ?_
    exact J14 (M) (a0) (1) _ _ _ hP hS (lv_sub hl [0, 1] rfl) h
  · refine lv_iconst (v := 0) C.1 C.2.1 dX7_setLabel_9 (by decide) ?_
    refine lv_goto (tgt := 14) C.1 C.2.1 dX7_setLabel_10 (by decide) ?_
    exact J14 (M) (a0) (0) _ _ _ hP hS (lv_sub hl [0, 1] rfl) h
theorem dX7_setLabelledBy_0 : decode cX7_setLabelledBy 0 = .ok (.aload_n 0, 1) := by decide +kernel
theorem dX7_setLabelledBy_1 : decode cX7_setLabelledBy 1 = .ok (.aload_n 0, 1) := by decide +kernel
theorem dX7_setLabelledBy_2 : decode cX7_setLabelledBy 2 = .ok (.iload_n 1, 1) := by decide +kernel
theorem dX7_setLabelledBy_3 : decode cX7_setLabelledBy 3 = .ok (.invokevirtual 123, 3) := by decide +kernel
theorem dX7_setLabelledBy_6 : decode cX7_setLabelledBy 6 = .ok (.ifCond .eq 16, 3) := by decide +kernel
theorem dX7_setLabelledBy_9 : decode cX7_setLabelledBy 9 = .ok (.iload_n 2, 1) := by decide +kernel
theorem dX7_setLabelledBy_10 : decode cX7_setLabelledBy 10 = .ok (.iconst (-1), 1) := by decide +kernel
theorem dX7_setLabelledBy_11 : decode cX7_setLabelledBy 11 = .ok (.if_icmp .eq 15, 3) := by decide +kernel
theorem dX7_setLabelledBy_14 : decode cX7_setLabelledBy 14 = .ok (.aload_n 0, 1) := by decide +kernel
theorem dX7_setLabelledBy_15 : decode cX7_setLabelledBy 15 = .ok (.iload_n 2, 1) := by decide +kernel
theorem dX7_setLabelledBy_16 : decode cX7_setLabelledBy 16 = .ok (.invokevirtual 123, 3) := by decide +kernel
theorem dX7_setLabelledBy_19 : decode cX7_setLabelledBy 19 = .ok (.ifCond .ne 7, 3) := by decide +kernel
theorem dX7_setLabelledBy_22 : decode cX7_setLabelledBy 22 = .ok (.iconst 1, 1) := by decide +kernel
theorem dX7_setLabelledBy_23 : decode cX7_setLabelledBy 23 = .ok (.goto 13, 3) := by decide +kernel
theorem dX7_setLabelledBy_26 : decode cX7_setLabelledBy 26 = .ok (.iload_n 1, 1) := by decide +kernel
theorem dX7_setLabelledBy_27 : decode cX7_setLabelledBy 27 = .ok (.iload_n 2, 1) := by decide +kernel
theorem dX7_setLabelledBy_28 : decode cX7_setLabelledBy 28 = .ok (.if_icmp .ne 7, 3) := by decide +kernel
theorem dX7_setLabelledBy_31 : decode cX7_setLabelledBy 31 = .ok (.iconst 2, 1) := by decide +kernel
theorem dX7_setLabelledBy_32 : decode cX7_setLabelledBy 32 = .ok (.goto 4, 3) := by decide +kernel
theorem dX7_setLabelledBy_35 : decode cX7_setLabelledBy 35 = .ok (.iconst 0, 1) := by decide +kernel
theorem dX7_setLabelledBy_36 : decode cX7_setLabelledBy 36 = .ok (.putfield 29, 3) := by decide +kernel
theorem dX7_setLabelledBy_39 : decode cX7_setLabelledBy 39 = .ok (.aload_n 0, 1) := by decide +kernel
theorem dX7_setLabelledBy_40 : decode cX7_setLabelledBy 40 = .ok (.getfield 29, 3) := by decide +kernel
theorem dX7_setLabelledBy_43 : decode cX7_setLabelledBy 43 = .ok (.ifCond .eq 5, 3) := by decide +kernel
theorem dX7_setLabelledBy_46 : decode cX7_setLabelledBy 46 = .ok (.iconst 0, 1) := by decide +kernel
theorem dX7_setLabelledBy_47 : decode cX7_setLabelledBy 47 = .ok (.ireturn, 1) := by decide +kernel
theorem dX7_setLabelledBy_48 : decode cX7_setLabelledBy 48 = .ok (.aload_n 0, 1) := by decide +kernel
theorem dX7_setLabelledBy_49 : decode cX7_setLabelledBy 49 = .ok (.invokevirtual 133, 3) := by decide +kernel
theorem dX7_setLabelledBy_52 : decode cX7_setLabelledBy 52 = .ok (.aload_n 0, 1) := by decide +kernel
theorem dX7_setLabelledBy_53 : decode cX7_setLabelledBy 53 = .ok (.iload_n 1, 1) := by decide +kernel
theorem dX7_setLabelledBy_54 : decode cX7_setLabelledBy 54 = .ok (.iconst 4, 1) := by decide +kernel
theorem dX7_setLabelledBy_55 : decode cX7_setLabelledBy 55 = .ok (.invokevirtual 40, 3) := by decide +kernel
theorem dX7_setLabelledBy_58 : decode cX7_setLabelledBy 58 = .ok (.istore_n 3, 1) := by decide +kernel
theorem dX7_setLabelledBy_59 : decode cX7_setLabelledBy 59 = .ok (.aload_n 0, 1) := by decide +kernel
theorem dX7_setLabelledBy_60 : decode cX7_setLabelledBy 60 = .ok (.iload_n 1, 1) := by decide +kernel
theorem dX7_setLabelledBy_61 : decode cX7_setLabelledBy 61 = .ok (.iconst 4, 1) := by decide +kernel
theorem dX7_setLabelledBy_62 : decode cX7_setLabelledBy 62 = .ok (.iload_n 2, 1) := by decide +kernel
theorem dX7_setLabelledBy_63 : decode cX7_setLabelledBy 63 = .ok (.invokevirtual 54, 3) := by decide +kernel
theorem dX7_setLabelledBy_66 : decode cX7_setLabelledBy 66 = .ok (.iload_n 3, 1) := by decide +kernel
theorem dX7_setLabelledBy_67 : decode cX7_setLabelledBy 67 = .ok (.ireturn, 1) := by decide +kernel
abbrev rmX7_setLabelledBy : Room := { frames := 3, cells := 0, slots := 0, locals := 83 }
noncomputable def fX7_setLabelledBy_36 (n : Nat) (Sh : Sp) (a0 : Nat) (a1 : Int32) (a2 : Int32) (M : Mm) (t0 : Nat) (t1 : Int32) : Option (Int32 × Mm) :=
  pI Sh M t0 7 5 t1 fun M1 =>
  tI M1 a0 5 fun x2 =>
  if x2 = 0 then
    (fX7_keep n Sh M1 a0).bind fun r3 =>
    (fX7_of n Sh r3 a0 a1 4).bind fun r4 =>
    (fX7_put n Sh r3 a0 a1 4 a2).bind fun r5 =>
    some (r4, r5)
  else
    some (0, M1)
noncomputable def fX7_setLabelledBy_26 (n : Nat) (Sh : Sp) (a0 : Nat) (a1 : Int32) (a2 : Int32) (M : Mm) (t0 : Nat) : Option (Int32 × Mm) :=
  if a1 = a2 then
    fX7_setLabelledBy_36 n Sh a0 a1 a2 M t0 2
  else
    fX7_setLabelledBy_36 n Sh a0 a1 a2 M t0 0
noncomputable def fX7_setLabelledBy_22 (n : Nat) (Sh : Sp) (a0 : Nat) (a1 : Int32) (a2 : Int32) (M : Mm) (t0 : Nat) : Option (Int32 × Mm) :=
  fX7_setLabelledBy_36 n Sh a0 a1 a2 M t0 1
noncomputable def fX7_setLabelledBy (n : Nat) (Sh : Sp) (M : Mm) (a0 : Nat) (a1 : Int32) (a2 : Int32) : Option (Int32 × Mm) :=
  (fX7_isNode n Sh M a0 a1).bind fun r6 =>
  if r6 = 0 then
    fX7_setLabelledBy_22 n Sh a0 a1 a2 M a0
  else
    if a2 = (-1) then
      fX7_setLabelledBy_26 n Sh a0 a1 a2 M a0
    else
      (fX7_isNode n Sh M a0 a2).bind fun r7 =>
      if r7 = 0 then
        fX7_setLabelledBy_22 n Sh a0 a1 a2 M a0
      else
        fX7_setLabelledBy_26 n Sh a0 a1 a2 M a0
set_option maxRecDepth 100000 in
set_option maxHeartbeats 4000000 in
theorem kX7_setLabelledBy {l : Launch} {G : Gt} {n : Nat} {Sh : Sp} {M : Mm} {a0 : Nat} {a1 : Int32} {a2 : Int32} (hT : Sh a0 = some (.inl 7)) {r : (Int32 × Mm)} (h : fX7_setLabelledBy n Sh M a0 a1 a2 = some r) : Ct l yX7_setLabelledBy cX7_setLabelledBy 4 (some .int) rmX7_setLabelledBy G Sh M [.ref a0, .int a1, .int a2] (some (.int r.1)) r.2 := by
  refine Ct.of (by decide) (Nat.le_of_ble_eq_true rfl) ?_
  intro p e s m args below meth c ls C hK hX hP hS hb hlk hr hl
  replace hl : lv_has ls 4 [(0, .ref a0), (1, .int a1), (2, .int a2)] := hl
  have J36 : ∀ (M : Mm) (t0 : Nat) (t1 : Int32) (H : Heap) (locs : List Loc) (ls : Array Slot), HM G Sh M H → SS G s s.heap.size H locs → lv_has ls 4 [(0, .ref a0), (1, .int a1), (2, .int a2)] → fX7_setLabelledBy_36 n Sh a0 a1 a2 M t0 t1 = some r → W p l e rmX7_setLabelledBy s m args below meth c H locs 0 0 (MQ below (QG G Sh r.2 (some (.int r.1))) args s rmX7_setLabelledBy.cells rmX7_setLabelledBy.slots (AA G)) (F0 m 36 ls [.int t1, .ref t0]) := by
    intro M t0 t1 H locs ls hP hS hl h
    unfold fX7_setLabelledBy_36 at h
    refine r_pI C hK hP hS cl_7 (k := 5) (by decide) wd_1149 rfl rfl (tyX7_ok 5 (by decide)) dX7_setLabelledBy_36 h (fun M1 H locs h hP hS => ?_)
    refine lv_aload_n C.1 C.2.1 dX7_setLabelledBy_39 rfl (lv_at hl 0 rfl) ?_
    refine r_tI C hK hP hT cl_7 (k := 5) (by decide) wd_1149 rfl dX7_setLabelledBy_40 h (fun x2 h => ?_)
    refine b_eq (tgt := 48) C dX7_setLabelledBy_43 (by decide) h (fun h => ?_) (fun h => ?_)
    · refine lv_aload_n C.1 C.2.1 dX7_setLabelledBy_48 rfl (lv_at hl 0 rfl) ?_
      obtain ⟨r3, hc, h⟩ := bS h
      refine r_V0 C hK hX hb hP hS hl.1 (kX7_keep (hT) hc) hT cl_7 wd_1209 mo_X7_keep wd_1211 wd_27 ⟨Nat.le_of_ble_eq_true rfl, Nat.le_of_ble_eq_true rfl⟩ ⟨Nat.le_of_ble_eq_true rfl, Nat.le_of_ble_eq_true rfl⟩ rfl (rest := []) rfl (Nat.le_of_ble_eq_true rfl) dX7_setLabelledBy_49 (fun H locs hP hS => ?_)
      refine lv_aload_n C.1 C.2.1 dX7_setLabelledBy_52 rfl (lv_at hl 0 rfl) ?_
      refine lv_iload_n C.1 C.2.1 dX7_setLabelledBy_53 rfl (lv_at hl 1 rfl) ?_
      refine lv_iconst (v := 4) C.1 C.2.1 dX7_setLabelledBy_54 (by decide) ?_
      obtain ⟨r4, hc, h⟩ := bS h
      refine r_V1 C hK hX hb hP hS hl.1 (kX7_of (hT) hc) hT cl_7 wd_1197 mo_X7_of wd_1199 wd_24 ⟨Nat.le_of_ble_eq_true rfl, Nat.le_of_ble_eq_true rfl⟩ ⟨Nat.le_of_ble_eq_true rfl, Nat.le_of_ble_eq_true rfl⟩ rfl (rest := []) rfl (Nat.le_of_ble_eq_true rfl) dX7_setLabelledBy_55 (fun H locs hP hS => ?_)
      refine lv_istore_n (lv' := [(3, .int r4), (0, .ref a0), (1, .int a1), (2, .int a2)]) C.1 C.2.1 dX7_setLabelledBy_58 rfl hl (by decide) rfl (fun ls hl => ?_)
      refine lv_aload_n C.1 C.2.1 dX7_setLabelledBy_59 rfl (lv_at hl 1 rfl) ?_
      refine lv_iload_n C.1 C.2.1 dX7_setLabelledBy_60 rfl (lv_at hl 2 rfl) ?_
      refine lv_iconst (v := 4) C.1 C.2.1 dX7_setLabelledBy_61 (by decide) ?_
      refine lv_iload_n C.1 C.2.1 dX7_setLabelledBy_62 rfl (lv_at hl 3 rfl) ?_
      obtain ⟨r5, hc, h⟩ := bS h
      refine r_V0 C hK hX hb hP hS hl.1 (kX7_put (hT) hc) hT cl_7 wd_1213 mo_X7_put wd_1215 wd_28 ⟨Nat.le_of_ble_eq_true rfl, Nat.le_of_ble_eq_true rfl⟩ ⟨Nat.le_of_ble_eq_true rfl, Nat.le_of_ble_eq_true rfl⟩ rfl (rest := []) rfl (Nat.le_of_ble_eq_true rfl) dX7_setLabelledBy_63 (fun H locs hP hS => ?_)
      refine lv_iload_n C.1 C.2.1 dX7_setLabelledBy_66 rfl (lv_at hl 0 rfl) ?_
      have e := Option.some.inj h
      exact q_i C hlk hP hS hr (by rw [← e]) (by rw [← e]) dX7_setLabelledBy_67
    · refine lv_iconst (v := 0) C.1 C.2.1 dX7_setLabelledBy_46 (by decide) ?_
      have e := Option.some.inj h
      exact q_i C hlk hP hS hr (by rw [← e]) (by rw [← e]) dX7_setLabelledBy_47
  have J26 : ∀ (M : Mm) (t0 : Nat) (H : Heap) (locs : List Loc) (ls : Array Slot), HM G Sh M H → SS G s s.heap.size H locs → lv_has ls 4 [(0, .ref a0), (1, .int a1), (2, .int a2)] → fX7_setLabelledBy_26 n Sh a0 a1 a2 M t0 = some r → W p l e rmX7_setLabelledBy s m args below meth c H locs 0 0 (MQ below (QG G Sh r.2 (some (.int r.1))) args s rmX7_setLabelledBy.cells rmX7_setLabelledBy.slots (AA G)) (F0 m 26 ls [.ref t0]) := by
    intro M t0 H locs ls hP hS hl h
    unfold fX7_setLabelledBy_26 at h
    refine lv_iload_n C.1 C.2.1 dX7_setLabelledBy_26 rfl (lv_at hl 1 rfl) ?_
    refine lv_iload_n C.1 C.2.1 dX7_setLabelledBy_27 rfl (lv_at hl 2 rfl) ?_
    refine b_ine (tgt := 35) C dX7_setLabelledBy_28 (by decide) h (fun h => ?_) (fun h => ?_)
    · refine lv_iconst (v := 2) C.1 C.2.1 dX7_setLabelledBy_31 (by decide) ?_
      refine lv_goto (tgt := 36) C.1 C.2.1 dX7_setLabelledBy_32 (by decide) ?_
      exact J36 (M) (t0) (2) _ _ _ hP hS (lv_sub hl [0, 1, 2] rfl) h
    · refine lv_iconst (v := 0) C.1 C.2.1 dX7_setLabelledBy_35 (by decide) ?_
      exact J36 (M) (t0) (0) _ _ _ hP hS (lv_sub hl [0, 1, 2] rfl) h
  have J22 : ∀ (M : Mm) (t0 : Nat) (H : Heap) (locs : List Loc) (ls : Array Slot), HM G Sh M H → SS G s s.heap.size H locs → lv_has ls 4 [(0, .ref a0), (1, .int a1), (2, .int a2)] → fX7_setLabelledBy_22 n Sh a0 a1 a2 M t0 = some r → W p l e rmX7_setLabelledBy s m args below meth c H locs 0 0 (MQ below (QG G Sh r.2 (some (.int r.1))) args s rmX7_setLabelledBy.cells rmX7_setLabelledBy.slots (AA G)) (F0 m 22 ls [.ref t0]) := by
    intro M t0 H locs ls hP hS hl h
    unfold fX7_setLabelledBy_22 at h
    refine lv_iconst (v := 1) C.1 C.2.1 dX7_setLabelledBy_22 (by decide) ?_
    refine lv_goto (tgt := 36) C.1 C.2.1 dX7_setLabelledBy_23 (by decide) ?_
    exact J36 (M) (t0) (1) _ _ _ hP hS (lv_sub hl [0, 1, 2] rfl) h
  unfold fX7_setLabelledBy at h
  refine lv_aload_n C.1 C.2.1 dX7_setLabelledBy_0 rfl (lv_at hl 0 rfl) ?_
  refine lv_aload_n C.1 C.2.1 dX7_setLabelledBy_1 rfl (lv_at hl 0 rfl) ?_
  refine lv_iload_n C.1 C.2.1 dX7_setLabelledBy_2 rfl (lv_at hl 1 rfl) ?_
  obtain ⟨r6, hc, h⟩ := bS h
  refine r_V1 C hK hX hb hP hS hl.1 (kX7_isNode (hT) hc) hT cl_7 wd_1190 mo_X7_isNode wd_1192 wd_23 ⟨Nat.le_of_ble_eq_true rfl, Nat.le_of_ble_eq_true rfl⟩ ⟨Nat.le_of_ble_eq_true rfl, Nat.le_of_ble_eq_true rfl⟩ rfl (rest := [.ref a0]) rfl (Nat.le_of_ble_eq_true rfl) dX7_setLabelledBy_3 (fun H locs hP hS => ?_)
  refine b_eq (tgt := 22) C dX7_setLabelledBy_6 (by decide) h (fun h => ?_) (fun h => ?_)
  · exact J22 (M) (a0) _ _ _ hP hS (lv_sub hl [0, 1, 2] rfl) h
  · refine lv_iload_n C.1 C.2.1 dX7_setLabelledBy_9 rfl (lv_at hl 2 rfl) ?_
    refine lv_iconst (v := (-1)) C.1 C.2.1 dX7_setLabelledBy_10 (by decide) ?_
    refine b_ieq (tgt := 26) C dX7_setLabelledBy_11 (by decide) h (fun h => ?_) (fun h => ?_)
    · exact J26 (M) (a0) _ _ _ hP hS (lv_sub hl [0, 1, 2] rfl) h
    · refine lv_aload_n C.1 C.2.1 dX7_setLabelledBy_14 rfl (lv_at hl 0 rfl) ?_
      refine lv_iload_n C.1 C.2.1 dX7_setLabelledBy_15 rfl (lv_at hl 2 rfl) ?_
      obtain ⟨r7, hc, h⟩ := bS h
      refine r_V1 C hK hX hb hP hS hl.1 (kX7_isNode (hT) hc) hT cl_7 wd_1190 mo_X7_isNode wd_1192 wd_23 ⟨Nat.le_of_ble_eq_true rfl, Nat.le_of_ble_eq_true rfl⟩ ⟨Nat.le_of_ble_eq_true rfl, Nat.le_of_ble_eq_true rfl⟩ rfl (rest := [.ref a0]) rfl (Nat.le_of_ble_eq_true rfl) dX7_setLabelledBy_16 (fun H locs hP hS => ?_)
      refine b_ne (tgt := 26) C dX7_setLabelledBy_19 (by decide) h (fun h => ?_) (fun h => ?_)
      · exact J22 (M) (a0) _ _ _ hP hS (lv_sub hl [0, 1, 2] rfl) h
      · exact J26 (M) (a0) _ _ _ hP hS (lv_sub hl [0, 1, 2] rfl) h
theorem dX7_character_0 : decode cX7_character 0 = .ok (.aload_n 0, 1) := by decide +kernel
theorem dX7_character_1 : decode cX7_character 1 = .ok (.aload_n 0, 1) := by decide +kernel
theorem dX7_character_2 : decode cX7_character 2 = .ok (.iload_n 1, 1) := by decide +kernel
theorem dX7_character_3 : decode cX7_character 3 = .ok (.invokevirtual 123, 3) := by decide +kernel
theorem dX7_character_6 : decode cX7_character 6 = .ok (.ifCond .ne 7, 3) := by decide +kernel
theorem dX7_character_9 : decode cX7_character 9 = .ok (.iconst 1, 1) := by decide +kernel
theorem dX7_character_10 : decode cX7_character 10 = .ok (.goto 17, 3) := by decide +kernel
theorem dX7_character_13 : decode cX7_character 13 = .ok (.iload_n 2, 1) := by decide +kernel
theorem dX7_character_14 : decode cX7_character 14 = .ok (.iconst 0, 1) := by decide +kernel
theorem dX7_character_15 : decode cX7_character 15 = .ok (.iconst 5, 1) := by decide +kernel
theorem dX7_character_16 : decode cX7_character 16 = .ok (.invokestatic 36, 3) := by decide +kernel
theorem dX7_character_19 : decode cX7_character 19 = .ok (.ifCond .ne 7, 3) := by decide +kernel
theorem dX7_character_22 : decode cX7_character 22 = .ok (.iconst 2, 1) := by decide +kernel
theorem dX7_character_23 : decode cX7_character 23 = .ok (.goto 4, 3) := by decide +kernel
theorem dX7_character_26 : decode cX7_character 26 = .ok (.iconst 0, 1) := by decide +kernel
theorem dX7_character_27 : decode cX7_character 27 = .ok (.putfield 29, 3) := by decide +kernel
theorem dX7_character_30 : decode cX7_character 30 = .ok (.aload_n 0, 1) := by decide +kernel
theorem dX7_character_31 : decode cX7_character 31 = .ok (.getfield 29, 3) := by decide +kernel
theorem dX7_character_34 : decode cX7_character 34 = .ok (.ifCond .eq 5, 3) := by decide +kernel
theorem dX7_character_37 : decode cX7_character 37 = .ok (.iconst 0, 1) := by decide +kernel
theorem dX7_character_38 : decode cX7_character 38 = .ok (.ireturn, 1) := by decide +kernel
theorem dX7_character_39 : decode cX7_character 39 = .ok (.aload_n 0, 1) := by decide +kernel
theorem dX7_character_40 : decode cX7_character 40 = .ok (.iload_n 1, 1) := by decide +kernel
theorem dX7_character_41 : decode cX7_character 41 = .ok (.iload_n 2, 1) := by decide +kernel
theorem dX7_character_42 : decode cX7_character 42 = .ok (.invokevirtual 117, 3) := by decide +kernel
theorem dX7_character_45 : decode cX7_character 45 = .ok (.iload_n 3, 1) := by decide +kernel
theorem dX7_character_46 : decode cX7_character 46 = .ok (.iconst 0, 1) := by decide +kernel
theorem dX7_character_47 : decode cX7_character 47 = .ok (.aload_n 0, 1) := by decide +kernel
theorem dX7_character_48 : decode cX7_character 48 = .ok (.getfield 58, 3) := by decide +kernel
theorem dX7_character_51 : decode cX7_character 51 = .ok (.iconst 1, 1) := by decide +kernel
theorem dX7_character_52 : decode cX7_character 52 = .ok (.isub, 1) := by decide +kernel
theorem dX7_character_53 : decode cX7_character 53 = .ok (.invokestatic 36, 3) := by decide +kernel
theorem dX7_character_56 : decode cX7_character 56 = .ok (.ifCond .eq 12, 3) := by decide +kernel
theorem dX7_character_59 : decode cX7_character 59 = .ok (.aload_n 0, 1) := by decide +kernel
theorem dX7_character_60 : decode cX7_character 60 = .ok (.getfield 19, 3) := by decide +kernel
theorem dX7_character_63 : decode cX7_character 63 = .ok (.iload_n 3, 1) := by decide +kernel
theorem dX7_character_64 : decode cX7_character 64 = .ok (.iaload, 1) := by decide +kernel
theorem dX7_character_65 : decode cX7_character 65 = .ok (.goto 4, 3) := by decide +kernel
theorem dX7_character_68 : decode cX7_character 68 = .ok (.iconst (-1), 1) := by decide +kernel
theorem dX7_character_69 : decode cX7_character 69 = .ok (.ireturn, 1) := by decide +kernel
abbrev rmX7_character : Room := { frames := 9, cells := 0, slots := 0, locals := 220 }
noncomputable def fX7_character_27 (n : Nat) (Sh : Sp) (a0 : Nat) (a1 : Int32) (a2 : Int32) (a3 : Int32) (M : Mm) (t0 : Nat) (t1 : Int32) : Option (Int32 × Mm) :=
  pI Sh M t0 7 5 t1 fun M1 =>
  tI M1 a0 5 fun x2 =>
  if x2 = 0 then
    (fX7_lay n Sh M1 a0 a1 a2).bind fun r3 =>
    tI r3 a0 7 fun x4 =>
    (fX7_in n Sh r3 a3 0 (x4 - 1)).bind fun r5 =>
    if r5 = 0 then
      some ((-1), r3)
    else
      tF r3 a0 6 fun b6 =>
      aI Sh r3 b6 0 a3 fun x7 =>
      some (x7, r3)
  else
    some (0, M1)
noncomputable def fX7_character (n : Nat) (Sh : Sp) (M : Mm) (a0 : Nat) (a1 : Int32) (a2 : Int32) (a3 : Int32) : Option (Int32 × Mm) :=
  (fX7_isNode n Sh M a0 a1).bind fun r8 =>
  if r8 = 0 then
    fX7_character_27 n Sh a0 a1 a2 a3 M a0 1
  else
    (fX7_in n Sh M a2 0 5).bind fun r9 =>
    if r9 = 0 then
      fX7_character_27 n Sh a0 a1 a2 a3 M a0 2
    else
      fX7_character_27 n Sh a0 a1 a2 a3 M a0 0
set_option maxRecDepth 100000 in
set_option maxHeartbeats 4000000 in
theorem kX7_character {l : Launch} {G : Gt} {n : Nat} {Sh : Sp} {M : Mm} {a0 : Nat} {a1 : Int32} {a2 : Int32} {a3 : Int32} (hT : Sh a0 = some (.inl 7)) {r : (Int32 × Mm)} (h : fX7_character n Sh M a0 a1 a2 a3 = some r) : Ct l yX7_character cX7_character 4 (some .int) rmX7_character G Sh M [.ref a0, .int a1, .int a2, .int a3] (some (.int r.1)) r.2 := by
  refine Ct.of (by decide) (Nat.le_of_ble_eq_true rfl) ?_
  intro p e s m args below meth c ls C hK hX hP hS hb hlk hr hl
  replace hl : lv_has ls 4 [(0, .ref a0), (1, .int a1), (2, .int a2), (3, .int a3)] := hl
  have J27 : ∀ (M : Mm) (t0 : Nat) (t1 : Int32) (H : Heap) (locs : List Loc) (ls : Array Slot), HM G Sh M H → SS G s s.heap.size H locs → lv_has ls 4 [(0, .ref a0), (1, .int a1), (2, .int a2), (3, .int a3)] → fX7_character_27 n Sh a0 a1 a2 a3 M t0 t1 = some r → W p l e rmX7_character s m args below meth c H locs 0 0 (MQ below (QG G Sh r.2 (some (.int r.1))) args s rmX7_character.cells rmX7_character.slots (AA G)) (F0 m 27 ls [.int t1, .ref t0]) := by
    intro M t0 t1 H locs ls hP hS hl h
    unfold fX7_character_27 at h
    refine r_pI C hK hP hS cl_7 (k := 5) (by decide) wd_1149 rfl rfl (tyX7_ok 5 (by decide)) dX7_character_27 h (fun M1 H locs h hP hS => ?_)
    refine lv_aload_n C.1 C.2.1 dX7_character_30 rfl (lv_at hl 0 rfl) ?_
    refine r_tI C hK hP hT cl_7 (k := 5) (by decide) wd_1149 rfl dX7_character_31 h (fun x2 h => ?_)
    refine b_eq (tgt := 39) C dX7_character_34 (by decide) h (fun h => ?_) (fun h => ?_)
    · refine lv_aload_n C.1 C.2.1 dX7_character_39 rfl (lv_at hl 0 rfl) ?_
      refine lv_iload_n C.1 C.2.1 dX7_character_40 rfl (lv_at hl 1 rfl) ?_
      refine lv_iload_n C.1 C.2.1 dX7_character_41 rfl (lv_at hl 2 rfl) ?_
      obtain ⟨r3, hc, h⟩ := bS h
      refine r_V0 C hK hX hb hP hS hl.1 (kX7_lay (hT) hc) hT cl_7 wd_1291 mo_X7_lay wd_1293 wd_40 ⟨Nat.le_of_ble_eq_true rfl, Nat.le_of_ble_eq_true rfl⟩ ⟨Nat.le_of_ble_eq_true rfl, Nat.le_of_ble_eq_true rfl⟩ rfl (rest := []) rfl (Nat.le_of_ble_eq_true rfl) dX7_character_42 (fun H locs hP hS => ?_)
      refine lv_iload_n C.1 C.2.1 dX7_character_45 rfl (lv_at hl 3 rfl) ?_
      refine lv_iconst (v := 0) C.1 C.2.1 dX7_character_46 (by decide) ?_
      refine lv_aload_n C.1 C.2.1 dX7_character_47 rfl (lv_at hl 0 rfl) ?_
      refine r_tI C hK hP hT cl_7 (k := 7) (by decide) wd_1151 rfl dX7_character_48 h (fun x4 h => ?_)
      refine lv_iconst (v := 1) C.1 C.2.1 dX7_character_51 (by decide) ?_
      refine lv_isub C.1 C.2.1 dX7_character_52 ?_
      obtain ⟨r5, hc, h⟩ := bS h
      refine r_S1 C hK hX hb hP hS hl.1 (kX7_in hc) wd_1194 mo_X7_in wd_1195 ⟨Nat.le_of_ble_eq_true rfl, Nat.le_of_ble_eq_true rfl⟩ ⟨Nat.le_of_ble_eq_true rfl, Nat.le_of_ble_eq_true rfl⟩ rfl (rest := []) rfl (Nat.le_of_ble_eq_true rfl) dX7_character_53 (fun H locs hP hS => ?_)
      refine b_eq (tgt := 68) C dX7_character_56 (by decide) h (fun h => ?_) (fun h => ?_)
      · refine lv_iconst (v := (-1)) C.1 C.2.1 dX7_character_68 (by decide) ?_
        have e := Option.some.inj h
        exact q_i C hlk hP hS hr (by rw [← e]) (by rw [← e]) dX7_character_69
      · refine lv_aload_n C.1 C.2.1 dX7_character_59 rfl (lv_at hl 0 rfl) ?_
        refine r_tF C hK hP hT cl_7 (k := 6) (by decide) wd_1150 rfl dX7_character_60 h (fun b6 h => ?_)
        refine lv_iload_n C.1 C.2.1 dX7_character_63 rfl (lv_at hl 3 rfl) ?_
        refine r_aI C hK hP dX7_character_64 h (fun x7 h => ?_)
        refine lv_goto (tgt := 69) C.1 C.2.1 dX7_character_65 (by decide) ?_
        have e := Option.some.inj h
        exact q_i C hlk hP hS hr (by rw [← e]) (by rw [← e]) dX7_character_69
    · refine lv_iconst (v := 0) C.1 C.2.1 dX7_character_37 (by decide) ?_
      have e := Option.some.inj h
      exact q_i C hlk hP hS hr (by rw [← e]) (by rw [← e]) dX7_character_38
  unfold fX7_character at h
  refine lv_aload_n C.1 C.2.1 dX7_character_0 rfl (lv_at hl 0 rfl) ?_
  refine lv_aload_n C.1 C.2.1 dX7_character_1 rfl (lv_at hl 0 rfl) ?_
  refine lv_iload_n C.1 C.2.1 dX7_character_2 rfl (lv_at hl 1 rfl) ?_
  obtain ⟨r8, hc, h⟩ := bS h
  refine r_V1 C hK hX hb hP hS hl.1 (kX7_isNode (hT) hc) hT cl_7 wd_1190 mo_X7_isNode wd_1192 wd_23 ⟨Nat.le_of_ble_eq_true rfl, Nat.le_of_ble_eq_true rfl⟩ ⟨Nat.le_of_ble_eq_true rfl, Nat.le_of_ble_eq_true rfl⟩ rfl (rest := [.ref a0]) rfl (Nat.le_of_ble_eq_true rfl) dX7_character_3 (fun H locs hP hS => ?_)
  refine b_ne (tgt := 13) C dX7_character_6 (by decide) h (fun h => ?_) (fun h => ?_)
  · refine lv_iconst (v := 1) C.1 C.2.1 dX7_character_9 (by decide) ?_
    refine lv_goto (tgt := 27) C.1 C.2.1 dX7_character_10 (by decide) ?_
    exact J27 (M) (a0) (1) _ _ _ hP hS (lv_sub hl [0, 1, 2, 3] rfl) h
  · refine lv_iload_n C.1 C.2.1 dX7_character_13 rfl (lv_at hl 2 rfl) ?_
    refine lv_iconst (v := 0) C.1 C.2.1 dX7_character_14 (by decide) ?_
    refine lv_iconst (v := 5) C.1 C.2.1 dX7_character_15 (by decide) ?_
    obtain ⟨r9, hc, h⟩ := bS h
    refine r_S1 C hK hX hb hP hS hl.1 (kX7_in hc) wd_1194 mo_X7_in wd_1195 ⟨Nat.le_of_ble_eq_true rfl, Nat.le_of_ble_eq_true rfl⟩ ⟨Nat.le_of_ble_eq_true rfl, Nat.le_of_ble_eq_true rfl⟩ rfl (rest := [.ref a0]) rfl (Nat.le_of_ble_eq_true rfl) dX7_character_16 (fun H locs hP hS => ?_)
    refine b_ne (tgt := 26) C dX7_character_19 (by decide) h (fun h => ?_) (fun h => ?_)
    · refine lv_iconst (v := 2) C.1 C.2.1 dX7_character_22 (by decide) ?_
      refine lv_goto (tgt := 27) C.1 C.2.1 dX7_character_23 (by decide) ?_
      exact J27 (M) (a0) (2) _ _ _ hP hS (lv_sub hl [0, 1, 2, 3] rfl) h
    · refine lv_iconst (v := 0) C.1 C.2.1 dX7_character_26 (by decide) ?_
      exact J27 (M) (a0) (0) _ _ _ hP hS (lv_sub hl [0, 1, 2, 3] rfl) h
theorem dX7_length_0 : decode cX7_length 0 = .ok (.aload_n 0, 1) := by decide +kernel
theorem dX7_length_1 : decode cX7_length 1 = .ok (.aload_n 0, 1) := by decide +kernel
theorem dX7_length_2 : decode cX7_length 2 = .ok (.iload_n 1, 1) := by decide +kernel
theorem dX7_length_3 : decode cX7_length 3 = .ok (.invokevirtual 123, 3) := by decide +kernel
theorem dX7_length_6 : decode cX7_length 6 = .ok (.ifCond .ne 7, 3) := by decide +kernel
theorem dX7_length_9 : decode cX7_length 9 = .ok (.iconst 1, 1) := by decide +kernel
theorem dX7_length_10 : decode cX7_length 10 = .ok (.goto 17, 3) := by decide +kernel
theorem dX7_length_13 : decode cX7_length 13 = .ok (.iload_n 2, 1) := by decide +kernel
theorem dX7_length_14 : decode cX7_length 14 = .ok (.iconst 0, 1) := by decide +kernel
theorem dX7_length_15 : decode cX7_length 15 = .ok (.iconst 5, 1) := by decide +kernel
theorem dX7_length_16 : decode cX7_length 16 = .ok (.invokestatic 36, 3) := by decide +kernel
theorem dX7_length_19 : decode cX7_length 19 = .ok (.ifCond .ne 7, 3) := by decide +kernel
theorem dX7_length_22 : decode cX7_length 22 = .ok (.iconst 2, 1) := by decide +kernel
theorem dX7_length_23 : decode cX7_length 23 = .ok (.goto 4, 3) := by decide +kernel
theorem dX7_length_26 : decode cX7_length 26 = .ok (.iconst 0, 1) := by decide +kernel
theorem dX7_length_27 : decode cX7_length 27 = .ok (.putfield 29, 3) := by decide +kernel
theorem dX7_length_30 : decode cX7_length 30 = .ok (.aload_n 0, 1) := by decide +kernel
theorem dX7_length_31 : decode cX7_length 31 = .ok (.getfield 29, 3) := by decide +kernel
theorem dX7_length_34 : decode cX7_length 34 = .ok (.ifCond .eq 5, 3) := by decide +kernel
theorem dX7_length_37 : decode cX7_length 37 = .ok (.iconst 0, 1) := by decide +kernel
theorem dX7_length_38 : decode cX7_length 38 = .ok (.ireturn, 1) := by decide +kernel
theorem dX7_length_39 : decode cX7_length 39 = .ok (.aload_n 0, 1) := by decide +kernel
theorem dX7_length_40 : decode cX7_length 40 = .ok (.iload_n 1, 1) := by decide +kernel
theorem dX7_length_41 : decode cX7_length 41 = .ok (.iload_n 2, 1) := by decide +kernel
theorem dX7_length_42 : decode cX7_length 42 = .ok (.invokevirtual 117, 3) := by decide +kernel
theorem dX7_length_45 : decode cX7_length 45 = .ok (.aload_n 0, 1) := by decide +kernel
theorem dX7_length_46 : decode cX7_length 46 = .ok (.getfield 58, 3) := by decide +kernel
theorem dX7_length_49 : decode cX7_length 49 = .ok (.ireturn, 1) := by decide +kernel
abbrev rmX7_length : Room := { frames := 9, cells := 0, slots := 0, locals := 220 }
noncomputable def fX7_length_27 (n : Nat) (Sh : Sp) (a0 : Nat) (a1 : Int32) (a2 : Int32) (M : Mm) (t0 : Nat) (t1 : Int32) : Option (Int32 × Mm) :=
  pI Sh M t0 7 5 t1 fun M1 =>
  tI M1 a0 5 fun x2 =>
  if x2 = 0 then
    (fX7_lay n Sh M1 a0 a1 a2).bind fun r3 =>
    tI r3 a0 7 fun x4 =>
    some (x4, r3)
  else
    some (0, M1)
noncomputable def fX7_length (n : Nat) (Sh : Sp) (M : Mm) (a0 : Nat) (a1 : Int32) (a2 : Int32) : Option (Int32 × Mm) :=
  (fX7_isNode n Sh M a0 a1).bind fun r5 =>
  if r5 = 0 then
    fX7_length_27 n Sh a0 a1 a2 M a0 1
  else
    (fX7_in n Sh M a2 0 5).bind fun r6 =>
    if r6 = 0 then
      fX7_length_27 n Sh a0 a1 a2 M a0 2
    else
      fX7_length_27 n Sh a0 a1 a2 M a0 0
set_option maxRecDepth 100000 in
set_option maxHeartbeats 4000000 in
theorem kX7_length {l : Launch} {G : Gt} {n : Nat} {Sh : Sp} {M : Mm} {a0 : Nat} {a1 : Int32} {a2 : Int32} (hT : Sh a0 = some (.inl 7)) {r : (Int32 × Mm)} (h : fX7_length n Sh M a0 a1 a2 = some r) : Ct l yX7_length cX7_length 3 (some .int) rmX7_length G Sh M [.ref a0, .int a1, .int a2] (some (.int r.1)) r.2 := by
  refine Ct.of (by decide) (Nat.le_of_ble_eq_true rfl) ?_
  intro p e s m args below meth c ls C hK hX hP hS hb hlk hr hl
  replace hl : lv_has ls 3 [(0, .ref a0), (1, .int a1), (2, .int a2)] := hl
  have J27 : ∀ (M : Mm) (t0 : Nat) (t1 : Int32) (H : Heap) (locs : List Loc) (ls : Array Slot), HM G Sh M H → SS G s s.heap.size H locs → lv_has ls 3 [(0, .ref a0), (1, .int a1), (2, .int a2)] → fX7_length_27 n Sh a0 a1 a2 M t0 t1 = some r → W p l e rmX7_length s m args below meth c H locs 0 0 (MQ below (QG G Sh r.2 (some (.int r.1))) args s rmX7_length.cells rmX7_length.slots (AA G)) (F0 m 27 ls [.int t1, .ref t0]) := by
    intro M t0 t1 H locs ls hP hS hl h
    unfold fX7_length_27 at h
    refine r_pI C hK hP hS cl_7 (k := 5) (by decide) wd_1149 rfl rfl (tyX7_ok 5 (by decide)) dX7_length_27 h (fun M1 H locs h hP hS => ?_)
    refine lv_aload_n C.1 C.2.1 dX7_length_30 rfl (lv_at hl 0 rfl) ?_
    refine r_tI C hK hP hT cl_7 (k := 5) (by decide) wd_1149 rfl dX7_length_31 h (fun x2 h => ?_)
    refine b_eq (tgt := 39) C dX7_length_34 (by decide) h (fun h => ?_) (fun h => ?_)
    · refine lv_aload_n C.1 C.2.1 dX7_length_39 rfl (lv_at hl 0 rfl) ?_
      refine lv_iload_n C.1 C.2.1 dX7_length_40 rfl (lv_at hl 1 rfl) ?_
      refine lv_iload_n C.1 C.2.1 dX7_length_41 rfl (lv_at hl 2 rfl) ?_
      obtain ⟨r3, hc, h⟩ := bS h
      refine r_V0 C hK hX hb hP hS hl.1 (kX7_lay (hT) hc) hT cl_7 wd_1291 mo_X7_lay wd_1293 wd_40 ⟨Nat.le_of_ble_eq_true rfl, Nat.le_of_ble_eq_true rfl⟩ ⟨Nat.le_of_ble_eq_true rfl, Nat.le_of_ble_eq_true rfl⟩ rfl (rest := []) rfl (Nat.le_of_ble_eq_true rfl) dX7_length_42 (fun H locs hP hS => ?_)
      refine lv_aload_n C.1 C.2.1 dX7_length_45 rfl (lv_at hl 0 rfl) ?_
      refine r_tI C hK hP hT cl_7 (k := 7) (by decide) wd_1151 rfl dX7_length_46 h (fun x4 h => ?_)
      have e := Option.some.inj h
      exact q_i C hlk hP hS hr (by rw [← e]) (by rw [← e]) dX7_length_49
    · refine lv_iconst (v := 0) C.1 C.2.1 dX7_length_37 (by decide) ?_
      have e := Option.some.inj h
      exact q_i C hlk hP hS hr (by rw [← e]) (by rw [← e]) dX7_length_38
  unfold fX7_length at h
  refine lv_aload_n C.1 C.2.1 dX7_length_0 rfl (lv_at hl 0 rfl) ?_
  refine lv_aload_n C.1 C.2.1 dX7_length_1 rfl (lv_at hl 0 rfl) ?_
  refine lv_iload_n C.1 C.2.1 dX7_length_2 rfl (lv_at hl 1 rfl) ?_
  obtain ⟨r5, hc, h⟩ := bS h
  refine r_V1 C hK hX hb hP hS hl.1 (kX7_isNode (hT) hc) hT cl_7 wd_1190 mo_X7_isNode wd_1192 wd_23 ⟨Nat.le_of_ble_eq_true rfl, Nat.le_of_ble_eq_true rfl⟩ ⟨Nat.le_of_ble_eq_true rfl, Nat.le_of_ble_eq_true rfl⟩ rfl (rest := [.ref a0]) rfl (Nat.le_of_ble_eq_true rfl) dX7_length_3 (fun H locs hP hS => ?_)
  refine b_ne (tgt := 13) C dX7_length_6 (by decide) h (fun h => ?_) (fun h => ?_)
  · refine lv_iconst (v := 1) C.1 C.2.1 dX7_length_9 (by decide) ?_
    refine lv_goto (tgt := 27) C.1 C.2.1 dX7_length_10 (by decide) ?_
    exact J27 (M) (a0) (1) _ _ _ hP hS (lv_sub hl [0, 1, 2] rfl) h
  · refine lv_iload_n C.1 C.2.1 dX7_length_13 rfl (lv_at hl 2 rfl) ?_
    refine lv_iconst (v := 0) C.1 C.2.1 dX7_length_14 (by decide) ?_
    refine lv_iconst (v := 5) C.1 C.2.1 dX7_length_15 (by decide) ?_
    obtain ⟨r6, hc, h⟩ := bS h
    refine r_S1 C hK hX hb hP hS hl.1 (kX7_in hc) wd_1194 mo_X7_in wd_1195 ⟨Nat.le_of_ble_eq_true rfl, Nat.le_of_ble_eq_true rfl⟩ ⟨Nat.le_of_ble_eq_true rfl, Nat.le_of_ble_eq_true rfl⟩ rfl (rest := [.ref a0]) rfl (Nat.le_of_ble_eq_true rfl) dX7_length_16 (fun H locs hP hS => ?_)
    refine b_ne (tgt := 26) C dX7_length_19 (by decide) h (fun h => ?_) (fun h => ?_)
    · refine lv_iconst (v := 2) C.1 C.2.1 dX7_length_22 (by decide) ?_
      refine lv_goto (tgt := 27) C.1 C.2.1 dX7_length_23 (by decide) ?_
      exact J27 (M) (a0) (2) _ _ _ hP hS (lv_sub hl [0, 1, 2] rfl) h
    · refine lv_iconst (v := 0) C.1 C.2.1 dX7_length_26 (by decide) ?_
      exact J27 (M) (a0) (0) _ _ _ hP hS (lv_sub hl [0, 1, 2] rfl) h
theorem dX7_inOrder_0 : decode cX7_inOrder 0 = .ok (.aload_n 0, 1) := by decide +kernel
theorem dX7_inOrder_1 : decode cX7_inOrder 1 = .ok (.iconst 0, 1) := by decide +kernel
theorem dX7_inOrder_2 : decode cX7_inOrder 2 = .ok (.putfield 29, 3) := by decide +kernel
theorem dX7_inOrder_5 : decode cX7_inOrder 5 = .ok (.iload_n 1, 1) := by decide +kernel
theorem dX7_inOrder_6 : decode cX7_inOrder 6 = .ok (.ifCond .ge 7, 3) := by decide +kernel
theorem dX7_inOrder_9 : decode cX7_inOrder 9 = .ok (.iconst (-1), 1) := by decide +kernel
theorem dX7_inOrder_10 : decode cX7_inOrder 10 = .ok (.goto 4, 3) := by decide +kernel
theorem dX7_inOrder_13 : decode cX7_inOrder 13 = .ok (.iconst 0, 1) := by decide +kernel
theorem dX7_inOrder_14 : decode cX7_inOrder 14 = .ok (.istore_n 2, 1) := by decide +kernel
theorem dX7_inOrder_15 : decode cX7_inOrder 15 = .ok (.iconst 0, 1) := by decide +kernel
theorem dX7_inOrder_16 : decode cX7_inOrder 16 = .ok (.istore_n 3, 1) := by decide +kernel
theorem dX7_inOrder_17 : decode cX7_inOrder 17 = .ok (.iload_n 3, 1) := by decide +kernel
theorem dX7_inOrder_18 : decode cX7_inOrder 18 = .ok (.iload_n 1, 1) := by decide +kernel
theorem dX7_inOrder_19 : decode cX7_inOrder 19 = .ok (.if_icmp .ge 21, 3) := by decide +kernel
theorem dX7_inOrder_22 : decode cX7_inOrder 22 = .ok (.iload_n 2, 1) := by decide +kernel
theorem dX7_inOrder_23 : decode cX7_inOrder 23 = .ok (.iconst (-1), 1) := by decide +kernel
theorem dX7_inOrder_24 : decode cX7_inOrder 24 = .ok (.if_icmp .eq 16, 3) := by decide +kernel
theorem dX7_inOrder_27 : decode cX7_inOrder 27 = .ok (.aload_n 0, 1) := by decide +kernel
theorem dX7_inOrder_28 : decode cX7_inOrder 28 = .ok (.iload_n 2, 1) := by decide +kernel
theorem dX7_inOrder_29 : decode cX7_inOrder 29 = .ok (.iconst 0, 1) := by decide +kernel
theorem dX7_inOrder_30 : decode cX7_inOrder 30 = .ok (.invokevirtual 75, 3) := by decide +kernel
theorem dX7_inOrder_33 : decode cX7_inOrder 33 = .ok (.istore_n 2, 1) := by decide +kernel
theorem dX7_inOrder_34 : decode cX7_inOrder 34 = .ok (.iinc 3 1, 3) := by decide +kernel
theorem dX7_inOrder_37 : decode cX7_inOrder 37 = .ok (.goto (-20), 3) := by decide +kernel
theorem dX7_inOrder_40 : decode cX7_inOrder 40 = .ok (.iload_n 2, 1) := by decide +kernel
theorem dX7_inOrder_41 : decode cX7_inOrder 41 = .ok (.ireturn, 1) := by decide +kernel
abbrev rmX7_inOrder : Room := { frames := 5, cells := 0, slots := 0, locals := 132 }
noncomputable def fX7_inOrder_17b (n : Nat) (Sh : Sp) (a0 : Nat) (a1 : Int32) (M : Mm) (v2 : Int32) (v3 : Int32) : Option ((Int32 × Int32) ⊕ (Int32 × Mm)) :=
  if v3 < a1 then
    if v2 = (-1) then
      some (Sum.inr (v2, M))
    else
      (fX7_following n Sh M a0 v2 0).bind fun r1 =>
      some (Sum.inl (r1, (v3 + 1)))
  else
    some (Sum.inr (v2, M))
noncomputable def fX7_inOrder_17 (n : Nat) (Sh : Sp) (a0 : Nat) (a1 : Int32) (M : Mm) (v2 : Int32) (v3 : Int32) : Option (Int32 × Mm) :=
  iter n (fun s => fX7_inOrder_17b n Sh a0 a1 M s.1 s.2) (v2, v3)
noncomputable def fX7_inOrder_14 (n : Nat) (Sh : Sp) (a0 : Nat) (a1 : Int32) (M : Mm) (t0 : Int32) : Option (Int32 × Mm) :=
  fX7_inOrder_17 n Sh a0 a1 M t0 0
noncomputable def fX7_inOrder (n : Nat) (Sh : Sp) (M : Mm) (a0 : Nat) (a1 : Int32) : Option (Int32 × Mm) :=
  qI M a0 5 0 fun M2 =>
  if a1 < 0 then
    fX7_inOrder_14 n Sh a0 a1 M2 (-1)
  else
    fX7_inOrder_14 n Sh a0 a1 M2 0
set_option maxRecDepth 100000 in
set_option maxHeartbeats 4000000 in
theorem kX7_inOrder {l : Launch} {G : Gt} {n : Nat} {Sh : Sp} {M : Mm} {a0 : Nat} {a1 : Int32} (hT : Sh a0 = some (.inl 7)) {r : (Int32 × Mm)} (h : fX7_inOrder n Sh M a0 a1 = some r) : Ct l yX7_inOrder cX7_inOrder 4 (some .int) rmX7_inOrder G Sh M [.ref a0, .int a1] (some (.int r.1)) r.2 := by
  refine Ct.of (by decide) (Nat.le_of_ble_eq_true rfl) ?_
  intro p e s m args below meth c ls C hK hX hP hS hb hlk hr hl
  replace hl : lv_has ls 4 [(0, .ref a0), (1, .int a1)] := hl
  have J17 : ∀ (M : Mm), ∀ (k : Nat) (v2 : Int32) (v3 : Int32) (H : Heap) (locs : List Loc) (ls : Array Slot), HM G Sh M H → SS G s s.heap.size H locs → lv_has ls 4 [(0, .ref a0), (1, .int a1), (2, .int v2), (3, .int v3)] → iter k (fun s => fX7_inOrder_17b n Sh a0 a1 M s.1 s.2) (v2, v3) = some r → W p l e rmX7_inOrder s m args below meth c H locs 0 0 (MQ below (QG G Sh r.2 (some (.int r.1))) args s rmX7_inOrder.cells rmX7_inOrder.slots (AA G)) (F0 m 17 ls []) := by
    intro M k
    induction k with
    | zero => intro v2 v3 H locs ls hP hS hl h; exact (iter_0 h).elim
    | succ k ih1 =>
      intro v2 v3 H locs ls hP hS hl h
      obtain ⟨z1, h, hz1⟩ := iter_some h
      replace h : fX7_inOrder_17b n Sh a0 a1 M v2 v3 = some z1 := h
      unfold fX7_inOrder_17b at h
      refine lv_iload_n C.1 C.2.1 dX7_inOrder_17 rfl (lv_at hl 3 rfl) ?_
      refine lv_iload_n C.1 C.2.1 dX7_inOrder_18 rfl (lv_at hl 1 rfl) ?_
      refine b_ige (tgt := 40) C dX7_inOrder_19 (by decide) h (fun h => ?_) (fun h => ?_)
      · refine lv_iload_n C.1 C.2.1 dX7_inOrder_22 rfl (lv_at hl 2 rfl) ?_
        refine lv_iconst (v := (-1)) C.1 C.2.1 dX7_inOrder_23 (by decide) ?_
        refine b_ieq (tgt := 40) C dX7_inOrder_24 (by decide) h (fun h => ?_) (fun h => ?_)
        · refine lv_iload_n C.1 C.2.1 dX7_inOrder_40 rfl (lv_at hl 2 rfl) ?_
          have e := Option.some.inj h
          rw [← e] at hz1
          replace e := itK_inr hz1
          exact q_i C hlk hP hS hr (by rw [← e]) (by rw [← e]) dX7_inOrder_41
        · refine lv_aload_n C.1 C.2.1 dX7_inOrder_27 rfl (lv_at hl 0 rfl) ?_
          refine lv_iload_n C.1 C.2.1 dX7_inOrder_28 rfl (lv_at hl 2 rfl) ?_
          refine lv_iconst (v := 0) C.1 C.2.1 dX7_inOrder_29 (by decide) ?_
          obtain ⟨r1, hc, h⟩ := bS h
          refine r_V1 C hK hX hb hP hS hl.1 (kX7_following (hT) hc) hT cl_7 wd_1319 mo_X7_following wd_1321 wd_47 ⟨Nat.le_of_ble_eq_true rfl, Nat.le_of_ble_eq_true rfl⟩ ⟨Nat.le_of_ble_eq_true rfl, Nat.le_of_ble_eq_true rfl⟩ rfl (rest := []) rfl (Nat.le_of_ble_eq_true rfl) dX7_inOrder_30 (fun H locs hP hS => ?_)
          refine lv_istore_n (lv' := [(2, .int r1), (0, .ref a0), (1, .int a1), (3, .int v3)]) C.1 C.2.1 dX7_inOrder_33 rfl hl (by decide) rfl (fun ls hl => ?_)
          refine lv_iinc (v := (v3 + 1)) (lv' := [(3, .int (v3 + 1)), (2, .int r1), (0, .ref a0), (1, .int a1)]) C.1 C.2.1 dX7_inOrder_34 hl (k := 3) rfl rfl (by decide) rfl (fun ls hl => ?_)
          refine lv_goto (tgt := 17) C.1 C.2.1 dX7_inOrder_37 (by decide) ?_
          have e := Option.some.inj h
          rw [← e] at hz1
          exact ih1 (r1) ((v3 + 1)) _ _ _ hP hS (lv_sub hl [2, 3, 1, 0] rfl) (itK_inl hz1)
      · refine lv_iload_n C.1 C.2.1 dX7_inOrder_40 rfl (lv_at hl 2 rfl) ?_
        have e := Option.some.inj h
        rw [← e] at hz1
        replace e := itK_inr hz1
        exact q_i C hlk hP hS hr (by rw [← e]) (by rw [← e]) dX7_inOrder_41
  have J14 : ∀ (M : Mm) (t0 : Int32) (H : Heap) (locs : List Loc) (ls : Array Slot), HM G Sh M H → SS G s s.heap.size H locs → lv_has ls 4 [(0, .ref a0), (1, .int a1)] → fX7_inOrder_14 n Sh a0 a1 M t0 = some r → W p l e rmX7_inOrder s m args below meth c H locs 0 0 (MQ below (QG G Sh r.2 (some (.int r.1))) args s rmX7_inOrder.cells rmX7_inOrder.slots (AA G)) (F0 m 14 ls [.int t0]) := by
    intro M t0 H locs ls hP hS hl h
    unfold fX7_inOrder_14 at h
    refine lv_istore_n (lv' := [(2, .int t0), (0, .ref a0), (1, .int a1)]) C.1 C.2.1 dX7_inOrder_14 rfl hl (by decide) rfl (fun ls hl => ?_)
    refine lv_iconst (v := 0) C.1 C.2.1 dX7_inOrder_15 (by decide) ?_
    refine lv_istore_n (lv' := [(3, .int 0), (2, .int t0), (0, .ref a0), (1, .int a1)]) C.1 C.2.1 dX7_inOrder_16 rfl hl (by decide) rfl (fun ls hl => ?_)
    exact J17 (M) n (t0) (0) _ _ _ hP hS (lv_sub hl [2, 3, 1, 0] rfl) h
  unfold fX7_inOrder at h
  refine lv_aload_n C.1 C.2.1 dX7_inOrder_0 rfl (lv_at hl 0 rfl) ?_
  refine lv_iconst (v := 0) C.1 C.2.1 dX7_inOrder_1 (by decide) ?_
  refine r_qI C hK hP hS hT cl_7 (k := 5) (by decide) wd_1149 rfl rfl (tyX7_ok 5 (by decide)) dX7_inOrder_2 h (fun M2 H locs h hP hS => ?_)
  refine lv_iload_n C.1 C.2.1 dX7_inOrder_5 rfl (lv_at hl 1 rfl) ?_
  refine b_ge (tgt := 13) C dX7_inOrder_6 (by decide) h (fun h => ?_) (fun h => ?_)
  · refine lv_iconst (v := (-1)) C.1 C.2.1 dX7_inOrder_9 (by decide) ?_
    refine lv_goto (tgt := 14) C.1 C.2.1 dX7_inOrder_10 (by decide) ?_
    exact J14 (M2) ((-1)) _ _ _ hP hS (lv_sub hl [0, 1] rfl) h
  · refine lv_iconst (v := 0) C.1 C.2.1 dX7_inOrder_13 (by decide) ?_
    exact J14 (M2) (0) _ _ _ hP hS (lv_sub hl [0, 1] rfl) h
theorem dX7_trapNow_0 : decode cX7_trapNow 0 = .ok (.iconst (-1), 1) := by decide +kernel
theorem dX7_trapNow_1 : decode cX7_trapNow 1 = .ok (.istore_n 1, 1) := by decide +kernel
theorem dX7_trapNow_2 : decode cX7_trapNow 2 = .ok (.iconst 0, 1) := by decide +kernel
theorem dX7_trapNow_3 : decode cX7_trapNow 3 = .ok (.istore_n 2, 1) := by decide +kernel
theorem dX7_trapNow_4 : decode cX7_trapNow 4 = .ok (.iload_n 2, 1) := by decide +kernel
theorem dX7_trapNow_5 : decode cX7_trapNow 5 = .ok (.bipush 24, 2) := by decide +kernel
theorem dX7_trapNow_7 : decode cX7_trapNow 7 = .ok (.if_icmp .ge 75, 3) := by decide +kernel
theorem dX7_trapNow_10 : decode cX7_trapNow 10 = .ok (.aload_n 0, 1) := by decide +kernel
theorem dX7_trapNow_11 : decode cX7_trapNow 11 = .ok (.iload_n 2, 1) := by decide +kernel
theorem dX7_trapNow_12 : decode cX7_trapNow 12 = .ok (.iconst 0, 1) := by decide +kernel
theorem dX7_trapNow_13 : decode cX7_trapNow 13 = .ok (.invokevirtual 40, 3) := by decide +kernel
theorem dX7_trapNow_16 : decode cX7_trapNow 16 = .ok (.iconst 1, 1) := by decide +kernel
theorem dX7_trapNow_17 : decode cX7_trapNow 17 = .ok (.if_icmp .ne 25, 3) := by decide +kernel
theorem dX7_trapNow_20 : decode cX7_trapNow 20 = .ok (.aload_n 0, 1) := by decide +kernel
theorem dX7_trapNow_21 : decode cX7_trapNow 21 = .ok (.iload_n 2, 1) := by decide +kernel
theorem dX7_trapNow_22 : decode cX7_trapNow 22 = .ok (.bipush 10, 2) := by decide +kernel
theorem dX7_trapNow_24 : decode cX7_trapNow 24 = .ok (.invokevirtual 40, 3) := by decide +kernel
theorem dX7_trapNow_27 : decode cX7_trapNow 27 = .ok (.ifCond .le 15, 3) := by decide +kernel
theorem dX7_trapNow_30 : decode cX7_trapNow 30 = .ok (.aload_n 0, 1) := by decide +kernel
theorem dX7_trapNow_31 : decode cX7_trapNow 31 = .ok (.iload_n 2, 1) := by decide +kernel
theorem dX7_trapNow_32 : decode cX7_trapNow 32 = .ok (.invokevirtual 114, 3) := by decide +kernel
theorem dX7_trapNow_35 : decode cX7_trapNow 35 = .ok (.ifCond .eq 7, 3) := by decide +kernel
theorem dX7_trapNow_38 : decode cX7_trapNow 38 = .ok (.iconst 1, 1) := by decide +kernel
theorem dX7_trapNow_39 : decode cX7_trapNow 39 = .ok (.goto 4, 3) := by decide +kernel
theorem dX7_trapNow_42 : decode cX7_trapNow 42 = .ok (.iconst 0, 1) := by decide +kernel
theorem dX7_trapNow_43 : decode cX7_trapNow 43 = .ok (.istore_n 3, 1) := by decide +kernel
theorem dX7_trapNow_44 : decode cX7_trapNow 44 = .ok (.iload_n 3, 1) := by decide +kernel
theorem dX7_trapNow_45 : decode cX7_trapNow 45 = .ok (.ifCond .eq 29, 3) := by decide +kernel
theorem dX7_trapNow_48 : decode cX7_trapNow 48 = .ok (.iload_n 1, 1) := by decide +kernel
theorem dX7_trapNow_49 : decode cX7_trapNow 49 = .ok (.iconst (-1), 1) := by decide +kernel
theorem dX7_trapNow_50 : decode cX7_trapNow 50 = .ok (.if_icmp .eq 20, 3) := by decide +kernel
theorem dX7_trapNow_53 : decode cX7_trapNow 53 = .ok (.aload_n 0, 1) := by decide +kernel
theorem dX7_trapNow_54 : decode cX7_trapNow 54 = .ok (.iload_n 2, 1) := by decide +kernel
theorem dX7_trapNow_55 : decode cX7_trapNow 55 = .ok (.bipush 10, 2) := by decide +kernel
theorem dX7_trapNow_57 : decode cX7_trapNow 57 = .ok (.invokevirtual 40, 3) := by decide +kernel
theorem dX7_trapNow_60 : decode cX7_trapNow 60 = .ok (.aload_n 0, 1) := by decide +kernel
theorem dX7_trapNow_61 : decode cX7_trapNow 61 = .ok (.iload_n 1, 1) := by decide +kernel
theorem dX7_trapNow_62 : decode cX7_trapNow 62 = .ok (.bipush 10, 2) := by decide +kernel
theorem dX7_trapNow_64 : decode cX7_trapNow 64 = .ok (.invokevirtual 40, 3) := by decide +kernel
theorem dX7_trapNow_67 : decode cX7_trapNow 67 = .ok (.if_icmp .le 7, 3) := by decide +kernel
theorem dX7_trapNow_70 : decode cX7_trapNow 70 = .ok (.iload_n 2, 1) := by decide +kernel
theorem dX7_trapNow_71 : decode cX7_trapNow 71 = .ok (.goto 4, 3) := by decide +kernel
theorem dX7_trapNow_74 : decode cX7_trapNow 74 = .ok (.iload_n 1, 1) := by decide +kernel
theorem dX7_trapNow_75 : decode cX7_trapNow 75 = .ok (.istore_n 1, 1) := by decide +kernel
theorem dX7_trapNow_76 : decode cX7_trapNow 76 = .ok (.iinc 2 1, 3) := by decide +kernel
theorem dX7_trapNow_79 : decode cX7_trapNow 79 = .ok (.goto (-75), 3) := by decide +kernel
theorem dX7_trapNow_82 : decode cX7_trapNow 82 = .ok (.iload_n 1, 1) := by decide +kernel
theorem dX7_trapNow_83 : decode cX7_trapNow 83 = .ok (.ireturn, 1) := by decide +kernel
abbrev rmX7_trapNow : Room := { frames := 4, cells := 0, slots := 0, locals := 106 }
noncomputable def fX7_trapNow_75 (n : Nat) (Sh : Sp) (M : Mm) (a0 : Nat) (v2 : Int32) (t0 : Int32) : Option ((Int32 × Int32) ⊕ Int32) :=
  some (Sum.inl (t0, (v2 + 1)))
noncomputable def fX7_trapNow_74 (n : Nat) (Sh : Sp) (M : Mm) (a0 : Nat) (v1 : Int32) (v2 : Int32) : Option ((Int32 × Int32) ⊕ Int32) :=
  fX7_trapNow_75 n Sh M a0 v2 v1
noncomputable def fX7_trapNow_70 (n : Nat) (Sh : Sp) (M : Mm) (a0 : Nat) (v2 : Int32) : Option ((Int32 × Int32) ⊕ Int32) :=
  fX7_trapNow_75 n Sh M a0 v2 v2
noncomputable def fX7_trapNow_43 (n : Nat) (Sh : Sp) (M : Mm) (a0 : Nat) (v1 : Int32) (v2 : Int32) (t0 : Int32) : Option ((Int32 × Int32) ⊕ Int32) :=
  if t0 = 0 then
    fX7_trapNow_74 n Sh M a0 v1 v2
  else
    if v1 = (-1) then
      fX7_trapNow_70 n Sh M a0 v2
    else
      (fX7_of n Sh M a0 v2 10).bind fun r1 =>
      (fX7_of n Sh M a0 v1 10).bind fun r2 =>
      if r1 ≤ r2 then
        fX7_trapNow_74 n Sh M a0 v1 v2
      else
        fX7_trapNow_70 n Sh M a0 v2
noncomputable def fX7_trapNow_42 (n : Nat) (Sh : Sp) (M : Mm) (a0 : Nat) (v1 : Int32) (v2 : Int32) : Option ((Int32 × Int32) ⊕ Int32) :=
  fX7_trapNow_43 n Sh M a0 v1 v2 0
noncomputable def fX7_trapNow_4b (n : Nat) (Sh : Sp) (M : Mm) (a0 : Nat) (v1 : Int32) (v2 : Int32) : Option ((Int32 × Int32) ⊕ Int32) :=
  if v2 < 24 then
    (fX7_of n Sh M a0 v2 0).bind fun r3 =>
    if r3 = 1 then
      (fX7_of n Sh M a0 v2 10).bind fun r4 =>
      if r4 ≤ 0 then
        fX7_trapNow_42 n Sh M a0 v1 v2
      else
        (fX7_isShown n Sh M a0 v2).bind fun r5 =>
        if r5 = 0 then
          fX7_trapNow_42 n Sh M a0 v1 v2
        else
          fX7_trapNow_43 n Sh M a0 v1 v2 1
    else
      fX7_trapNow_42 n Sh M a0 v1 v2
  else
    some (Sum.inr v1)
noncomputable def fX7_trapNow_4 (n : Nat) (Sh : Sp) (M : Mm) (a0 : Nat) (v1 : Int32) (v2 : Int32) : Option Int32 :=
  iter n (fun s => fX7_trapNow_4b n Sh M a0 s.1 s.2) (v1, v2)
noncomputable def fX7_trapNow (n : Nat) (Sh : Sp) (M : Mm) (a0 : Nat) : Option Int32 :=
  fX7_trapNow_4 n Sh M a0 (-1) 0
set_option maxRecDepth 100000 in
set_option maxHeartbeats 4000000 in
theorem kX7_trapNow {l : Launch} {G : Gt} {n : Nat} {Sh : Sp} {M : Mm} {a0 : Nat} (hT : Sh a0 = some (.inl 7)) {r : Int32} (h : fX7_trapNow n Sh M a0 = some r) : Ct l yX7_trapNow cX7_trapNow 4 (some .int) rmX7_trapNow G Sh M [.ref a0] (some (.int r)) M := by
  refine Ct.of (by decide) (Nat.le_of_ble_eq_true rfl) ?_
  intro p e s m args below meth c ls C hK hX hP hS hb hlk hr hl
  replace hl : lv_has ls 4 [(0, .ref a0)] := hl
  have J4 : ∀ (k : Nat) (v1 : Int32) (v2 : Int32) (H : Heap) (locs : List Loc) (ls : Array Slot), HM G Sh M H → SS G s s.heap.size H locs → lv_has ls 4 [(0, .ref a0), (1, .int v1), (2, .int v2)] → iter k (fun s => fX7_trapNow_4b n Sh M a0 s.1 s.2) (v1, v2) = some r → W p l e rmX7_trapNow s m args below meth c H locs 0 0 (MQ below (QG G Sh M (some (.int r))) args s rmX7_trapNow.cells rmX7_trapNow.slots (AA G)) (F0 m 4 ls []) := by
    intro k
    induction k with
    | zero => intro v1 v2 H locs ls hP hS hl h; exact (iter_0 h).elim
    | succ k ih1 =>
      intro v1 v2 H locs ls hP hS hl h
      obtain ⟨z1, h, hz1⟩ := iter_some h
      replace h : fX7_trapNow_4b n Sh M a0 v1 v2 = some z1 := h
      have J75 : ∀ (v2 : Int32) (t0 : Int32) (H : Heap) (locs : List Loc) (ls : Array Slot), HM G Sh M H → SS G s s.heap.size H locs → lv_has ls 4 [(0, .ref a0), (2, .int v2)] → fX7_trapNow_75 n Sh M a0 v2 t0 = some z1 → W p l e rmX7_trapNow s m args below meth c H locs 0 0 (MQ below (QG G Sh M (some (.int r))) args s rmX7_trapNow.cells rmX7_trapNow.slots (AA G)) (F0 m 75 ls [.int t0]) := by
        intro v2 t0 H locs ls hP hS hl h
        unfold fX7_trapNow_75 at h
        refine lv_istore_n (lv' := [(1, .int t0), (0, .ref a0), (2, .int v2)]) C.1 C.2.1 dX7_trapNow_75 rfl hl (by decide) rfl (fun ls hl => ?_)
        refine lv_iinc (v := (v2 + 1)) (lv' := [(2, .int (v2 + 1)), (1, .int t0), (0, .ref a0)]) C.1 C.2.1 dX7_trapNow_76 hl (k := 2) rfl rfl (by decide) rfl (fun ls hl => ?_)
        refine lv_goto (tgt := 4) C.1 C.2.1 dX7_trapNow_79 (by decide) ?_
        have e := Option.some.inj h
        rw [← e] at hz1
        exact ih1 (t0) ((v2 + 1)) _ _ _ hP hS (lv_sub hl [2, 1, 0] rfl) (itK_inl hz1)
      have J74 : ∀ (v1 : Int32) (v2 : Int32) (H : Heap) (locs : List Loc) (ls : Array Slot), HM G Sh M H → SS G s s.heap.size H locs → lv_has ls 4 [(0, .ref a0), (1, .int v1), (2, .int v2)] → fX7_trapNow_74 n Sh M a0 v1 v2 = some z1 → W p l e rmX7_trapNow s m args below meth c H locs 0 0 (MQ below (QG G Sh M (some (.int r))) args s rmX7_trapNow.cells rmX7_trapNow.slots (AA G)) (F0 m 74 ls []) := by
        intro v1 v2 H locs ls hP hS hl h
        unfold fX7_trapNow_74 at h
        refine lv_iload_n C.1 C.2.1 dX7_trapNow_74 rfl (lv_at hl 1 rfl) ?_
        exact J75 (v2) (v1) _ _ _ hP hS (lv_sub hl [0, 2] rfl) h
      have J70 : ∀ (v2 : Int32) (H : Heap) (locs : List Loc) (ls : Array Slot), HM G Sh M H → SS G s s.heap.size H locs → lv_has ls 4 [(0, .ref a0), (2, .int v2)] → fX7_trapNow_70 n Sh M a0 v2 = some z1 → W p l e rmX7_trapNow s m args below meth c H locs 0 0 (MQ below (QG G Sh M (some (.int r))) args s rmX7_trapNow.cells rmX7_trapNow.slots (AA G)) (F0 m 70 ls []) := by
        intro v2 H locs ls hP hS hl h
        unfold fX7_trapNow_70 at h
        refine lv_iload_n C.1 C.2.1 dX7_trapNow_70 rfl (lv_at hl 1 rfl) ?_
        refine lv_goto (tgt := 75) C.1 C.2.1 dX7_trapNow_71 (by decide) ?_
        exact J75 (v2) (v2) _ _ _ hP hS (lv_sub hl [0, 1] rfl) h
      have J43 : ∀ (v1 : Int32) (v2 : Int32) (t0 : Int32) (H : Heap) (locs : List Loc) (ls : Array Slot), HM G Sh M H → SS G s s.heap.size H locs → lv_has ls 4 [(0, .ref a0), (1, .int v1), (2, .int v2)] → fX7_trapNow_43 n Sh M a0 v1 v2 t0 = some z1 → W p l e rmX7_trapNow s m args below meth c H locs 0 0 (MQ below (QG G Sh M (some (.int r))) args s rmX7_trapNow.cells rmX7_trapNow.slots (AA G)) (F0 m 43 ls [.int t0]) := by
        intro v1 v2 t0 H locs ls hP hS hl h
        unfold fX7_trapNow_43 at h
        refine lv_istore_n (lv' := [(3, .int t0), (0, .ref a0), (1, .int v1), (2, .int v2)]) C.1 C.2.1 dX7_trapNow_43 rfl hl (by decide) rfl (fun ls hl => ?_)
        refine lv_iload_n C.1 C.2.1 dX7_trapNow_44 rfl (lv_at hl 0 rfl) ?_
        refine b_eq (tgt := 74) C dX7_trapNow_45 (by decide) h (fun h => ?_) (fun h => ?_)
        · exact J74 (v1) (v2) _ _ _ hP hS (lv_sub hl [1, 2, 3] rfl) h
        · refine lv_iload_n C.1 C.2.1 dX7_trapNow_48 rfl (lv_at hl 2 rfl) ?_
          refine lv_iconst (v := (-1)) C.1 C.2.1 dX7_trapNow_49 (by decide) ?_
          refine b_ieq (tgt := 70) C dX7_trapNow_50 (by decide) h (fun h => ?_) (fun h => ?_)
          · exact J70 (v2) _ _ _ hP hS (lv_sub hl [1, 3] rfl) h
          · refine lv_aload_n C.1 C.2.1 dX7_trapNow_53 rfl (lv_at hl 1 rfl) ?_
            refine lv_iload_n C.1 C.2.1 dX7_trapNow_54 rfl (lv_at hl 3 rfl) ?_
            refine lv_bipush (v := 10) C.1 C.2.1 dX7_trapNow_55 (by decide) ?_
            obtain ⟨r1, hc, h⟩ := bS h
            refine r_V1 C hK hX hb hP hS hl.1 (kX7_of (hT) hc) hT cl_7 wd_1197 mo_X7_of wd_1199 wd_24 ⟨Nat.le_of_ble_eq_true rfl, Nat.le_of_ble_eq_true rfl⟩ ⟨Nat.le_of_ble_eq_true rfl, Nat.le_of_ble_eq_true rfl⟩ rfl (rest := []) rfl (Nat.le_of_ble_eq_true rfl) dX7_trapNow_57 (fun H locs hP hS => ?_)
            refine lv_aload_n C.1 C.2.1 dX7_trapNow_60 rfl (lv_at hl 1 rfl) ?_
            refine lv_iload_n C.1 C.2.1 dX7_trapNow_61 rfl (lv_at hl 2 rfl) ?_
            refine lv_bipush (v := 10) C.1 C.2.1 dX7_trapNow_62 (by decide) ?_
            obtain ⟨r2, hc, h⟩ := bS h
            refine r_V1 C hK hX hb hP hS hl.1 (kX7_of (hT) hc) hT cl_7 wd_1197 mo_X7_of wd_1199 wd_24 ⟨Nat.le_of_ble_eq_true rfl, Nat.le_of_ble_eq_true rfl⟩ ⟨Nat.le_of_ble_eq_true rfl, Nat.le_of_ble_eq_true rfl⟩ rfl (rest := [.int r1]) rfl (Nat.le_of_ble_eq_true rfl) dX7_trapNow_64 (fun H locs hP hS => ?_)
            refine b_ile (tgt := 74) C dX7_trapNow_67 (by decide) h (fun h => ?_) (fun h => ?_)
            · exact J74 (v1) (v2) _ _ _ hP hS (lv_sub hl [1, 2, 3] rfl) h
            · exact J70 (v2) _ _ _ hP hS (lv_sub hl [1, 3] rfl) h
      have J42 : ∀ (v1 : Int32) (v2 : Int32) (H : Heap) (locs : List Loc) (ls : Array Slot), HM G Sh M H → SS G s s.heap.size H locs → lv_has ls 4 [(0, .ref a0), (1, .int v1), (2, .int v2)] → fX7_trapNow_42 n Sh M a0 v1 v2 = some z1 → W p l e rmX7_trapNow s m args below meth c H locs 0 0 (MQ below (QG G Sh M (some (.int r))) args s rmX7_trapNow.cells rmX7_trapNow.slots (AA G)) (F0 m 42 ls []) := by
        intro v1 v2 H locs ls hP hS hl h
        unfold fX7_trapNow_42 at h
        refine lv_iconst (v := 0) C.1 C.2.1 dX7_trapNow_42 (by decide) ?_
        exact J43 (v1) (v2) (0) _ _ _ hP hS (lv_sub hl [0, 1, 2] rfl) h
      unfold fX7_trapNow_4b at h
      refine lv_iload_n C.1 C.2.1 dX7_trapNow_4 rfl (lv_at hl 2 rfl) ?_
      refine lv_bipush (v := 24) C.1 C.2.1 dX7_trapNow_5 (by decide) ?_
      refine b_ige (tgt := 82) C dX7_trapNow_7 (by decide) h (fun h => ?_) (fun h => ?_)
      · refine lv_aload_n C.1 C.2.1 dX7_trapNow_10 rfl (lv_at hl 0 rfl) ?_
        refine lv_iload_n C.1 C.2.1 dX7_trapNow_11 rfl (lv_at hl 2 rfl) ?_
        refine lv_iconst (v := 0) C.1 C.2.1 dX7_trapNow_12 (by decide) ?_
        obtain ⟨r3, hc, h⟩ := bS h
        refine r_V1 C hK hX hb hP hS hl.1 (kX7_of (hT) hc) hT cl_7 wd_1197 mo_X7_of wd_1199 wd_24 ⟨Nat.le_of_ble_eq_true rfl, Nat.le_of_ble_eq_true rfl⟩ ⟨Nat.le_of_ble_eq_true rfl, Nat.le_of_ble_eq_true rfl⟩ rfl (rest := []) rfl (Nat.le_of_ble_eq_true rfl) dX7_trapNow_13 (fun H locs hP hS => ?_)
        refine lv_iconst (v := 1) C.1 C.2.1 dX7_trapNow_16 (by decide) ?_
        refine b_ine (tgt := 42) C dX7_trapNow_17 (by decide) h (fun h => ?_) (fun h => ?_)
        · refine lv_aload_n C.1 C.2.1 dX7_trapNow_20 rfl (lv_at hl 0 rfl) ?_
          refine lv_iload_n C.1 C.2.1 dX7_trapNow_21 rfl (lv_at hl 2 rfl) ?_
          refine lv_bipush (v := 10) C.1 C.2.1 dX7_trapNow_22 (by decide) ?_
          obtain ⟨r4, hc, h⟩ := bS h
          refine r_V1 C hK hX hb hP hS hl.1 (kX7_of (hT) hc) hT cl_7 wd_1197 mo_X7_of wd_1199 wd_24 ⟨Nat.le_of_ble_eq_true rfl, Nat.le_of_ble_eq_true rfl⟩ ⟨Nat.le_of_ble_eq_true rfl, Nat.le_of_ble_eq_true rfl⟩ rfl (rest := []) rfl (Nat.le_of_ble_eq_true rfl) dX7_trapNow_24 (fun H locs hP hS => ?_)
          refine b_le (tgt := 42) C dX7_trapNow_27 (by decide) h (fun h => ?_) (fun h => ?_)
          · exact J42 (v1) (v2) _ _ _ hP hS (lv_sub hl [0, 1, 2] rfl) h
          · refine lv_aload_n C.1 C.2.1 dX7_trapNow_30 rfl (lv_at hl 0 rfl) ?_
            refine lv_iload_n C.1 C.2.1 dX7_trapNow_31 rfl (lv_at hl 2 rfl) ?_
            obtain ⟨r5, hc, h⟩ := bS h
            refine r_V1 C hK hX hb hP hS hl.1 (kX7_isShown (hT) hc) hT cl_7 wd_1264 mo_X7_isShown wd_1266 wd_36 ⟨Nat.le_of_ble_eq_true rfl, Nat.le_of_ble_eq_true rfl⟩ ⟨Nat.le_of_ble_eq_true rfl, Nat.le_of_ble_eq_true rfl⟩ rfl (rest := []) rfl (Nat.le_of_ble_eq_true rfl) dX7_trapNow_32 (fun H locs hP hS => ?_)
            refine b_eq (tgt := 42) C dX7_trapNow_35 (by decide) h (fun h => ?_) (fun h => ?_)
            · exact J42 (v1) (v2) _ _ _ hP hS (lv_sub hl [0, 1, 2] rfl) h
            · refine lv_iconst (v := 1) C.1 C.2.1 dX7_trapNow_38 (by decide) ?_
              refine lv_goto (tgt := 43) C.1 C.2.1 dX7_trapNow_39 (by decide) ?_
              exact J43 (v1) (v2) (1) _ _ _ hP hS (lv_sub hl [0, 1, 2] rfl) h
        · exact J42 (v1) (v2) _ _ _ hP hS (lv_sub hl [0, 1, 2] rfl) h
      · refine lv_iload_n C.1 C.2.1 dX7_trapNow_82 rfl (lv_at hl 1 rfl) ?_
        have e := Option.some.inj h
        rw [← e] at hz1
        replace e := itK_inr hz1
        exact q_i C hlk hP hS hr (by rw [← e]) rfl dX7_trapNow_83
  unfold fX7_trapNow at h
  refine lv_iconst (v := (-1)) C.1 C.2.1 dX7_trapNow_0 (by decide) ?_
  refine lv_istore_n (lv' := [(1, .int (-1)), (0, .ref a0)]) C.1 C.2.1 dX7_trapNow_1 rfl hl (by decide) rfl (fun ls hl => ?_)
  refine lv_iconst (v := 0) C.1 C.2.1 dX7_trapNow_2 (by decide) ?_
  refine lv_istore_n (lv' := [(2, .int 0), (1, .int (-1)), (0, .ref a0)]) C.1 C.2.1 dX7_trapNow_3 rfl hl (by decide) rfl (fun ls hl => ?_)
  exact J4  n ((-1)) (0) _ _ _ hP hS (lv_sub hl [2, 1, 0] rfl) h
theorem dX7_mayFocus_0 : decode cX7_mayFocus 0 = .ok (.aload_n 0, 1) := by decide +kernel
theorem dX7_mayFocus_1 : decode cX7_mayFocus 1 = .ok (.iload_n 1, 1) := by decide +kernel
theorem dX7_mayFocus_2 : decode cX7_mayFocus 2 = .ok (.iconst 3, 1) := by decide +kernel
theorem dX7_mayFocus_3 : decode cX7_mayFocus 3 = .ok (.invokevirtual 40, 3) := by decide +kernel
theorem dX7_mayFocus_6 : decode cX7_mayFocus 6 = .ok (.istore_n 2, 1) := by decide +kernel
theorem dX7_mayFocus_7 : decode cX7_mayFocus 7 = .ok (.iload_n 2, 1) := by decide +kernel
theorem dX7_mayFocus_8 : decode cX7_mayFocus 8 = .ok (.iconst 2, 1) := by decide +kernel
theorem dX7_mayFocus_9 : decode cX7_mayFocus 9 = .ok (.if_icmp .eq 13, 3) := by decide +kernel
theorem dX7_mayFocus_12 : decode cX7_mayFocus 12 = .ok (.iload_n 2, 1) := by decide +kernel
theorem dX7_mayFocus_13 : decode cX7_mayFocus 13 = .ok (.iconst 3, 1) := by decide +kernel
theorem dX7_mayFocus_14 : decode cX7_mayFocus 14 = .ok (.if_icmp .eq 8, 3) := by decide +kernel
theorem dX7_mayFocus_17 : decode cX7_mayFocus 17 = .ok (.iload_n 2, 1) := by decide +kernel
theorem dX7_mayFocus_18 : decode cX7_mayFocus 18 = .ok (.iconst 5, 1) := by decide +kernel
theorem dX7_mayFocus_19 : decode cX7_mayFocus 19 = .ok (.if_icmp .ne 33, 3) := by decide +kernel
theorem dX7_mayFocus_22 : decode cX7_mayFocus 22 = .ok (.aload_n 0, 1) := by decide +kernel
theorem dX7_mayFocus_23 : decode cX7_mayFocus 23 = .ok (.iload_n 1, 1) := by decide +kernel
theorem dX7_mayFocus_24 : decode cX7_mayFocus 24 = .ok (.invokevirtual 114, 3) := by decide +kernel
theorem dX7_mayFocus_27 : decode cX7_mayFocus 27 = .ok (.ifCond .eq 25, 3) := by decide +kernel
theorem dX7_mayFocus_30 : decode cX7_mayFocus 30 = .ok (.aload_n 0, 1) := by decide +kernel
theorem dX7_mayFocus_31 : decode cX7_mayFocus 31 = .ok (.iload_n 1, 1) := by decide +kernel
theorem dX7_mayFocus_32 : decode cX7_mayFocus 32 = .ok (.bipush 6, 2) := by decide +kernel
theorem dX7_mayFocus_34 : decode cX7_mayFocus 34 = .ok (.invokevirtual 40, 3) := by decide +kernel
theorem dX7_mayFocus_37 : decode cX7_mayFocus 37 = .ok (.iconst 1, 1) := by decide +kernel
theorem dX7_mayFocus_38 : decode cX7_mayFocus 38 = .ok (.if_icmp .eq 14, 3) := by decide +kernel
theorem dX7_mayFocus_41 : decode cX7_mayFocus 41 = .ok (.aload_n 0, 1) := by decide +kernel
theorem dX7_mayFocus_42 : decode cX7_mayFocus 42 = .ok (.iload_n 1, 1) := by decide +kernel
theorem dX7_mayFocus_43 : decode cX7_mayFocus 43 = .ok (.bipush 7, 2) := by decide +kernel
theorem dX7_mayFocus_45 : decode cX7_mayFocus 45 = .ok (.invokevirtual 40, 3) := by decide +kernel
theorem dX7_mayFocus_48 : decode cX7_mayFocus 48 = .ok (.iconst (-1), 1) := by decide +kernel
theorem dX7_mayFocus_49 : decode cX7_mayFocus 49 = .ok (.if_icmp .ne 5, 3) := by decide +kernel
theorem dX7_mayFocus_52 : decode cX7_mayFocus 52 = .ok (.iconst 0, 1) := by decide +kernel
theorem dX7_mayFocus_53 : decode cX7_mayFocus 53 = .ok (.ireturn, 1) := by decide +kernel
theorem dX7_mayFocus_54 : decode cX7_mayFocus 54 = .ok (.aload_n 0, 1) := by decide +kernel
theorem dX7_mayFocus_55 : decode cX7_mayFocus 55 = .ok (.invokevirtual 164, 3) := by decide +kernel
theorem dX7_mayFocus_58 : decode cX7_mayFocus 58 = .ok (.istore_n 3, 1) := by decide +kernel
theorem dX7_mayFocus_59 : decode cX7_mayFocus 59 = .ok (.iload_n 3, 1) := by decide +kernel
theorem dX7_mayFocus_60 : decode cX7_mayFocus 60 = .ok (.iconst (-1), 1) := by decide +kernel
theorem dX7_mayFocus_61 : decode cX7_mayFocus 61 = .ok (.if_icmp .eq 12, 3) := by decide +kernel
theorem dX7_mayFocus_64 : decode cX7_mayFocus 64 = .ok (.aload_n 0, 1) := by decide +kernel
theorem dX7_mayFocus_65 : decode cX7_mayFocus 65 = .ok (.iload_n 1, 1) := by decide +kernel
theorem dX7_mayFocus_66 : decode cX7_mayFocus 66 = .ok (.iload_n 3, 1) := by decide +kernel
theorem dX7_mayFocus_67 : decode cX7_mayFocus 67 = .ok (.invokevirtual 139, 3) := by decide +kernel
theorem dX7_mayFocus_70 : decode cX7_mayFocus 70 = .ok (.ifCond .eq 7, 3) := by decide +kernel
theorem dX7_mayFocus_73 : decode cX7_mayFocus 73 = .ok (.iconst 1, 1) := by decide +kernel
theorem dX7_mayFocus_74 : decode cX7_mayFocus 74 = .ok (.goto 4, 3) := by decide +kernel
theorem dX7_mayFocus_77 : decode cX7_mayFocus 77 = .ok (.iconst 0, 1) := by decide +kernel
theorem dX7_mayFocus_78 : decode cX7_mayFocus 78 = .ok (.ireturn, 1) := by decide +kernel
abbrev rmX7_mayFocus : Room := { frames := 5, cells := 0, slots := 0, locals := 129 }
noncomputable def fX7_mayFocus_73 (n : Nat) (Sh : Sp) (M : Mm) (a0 : Nat) (a1 : Int32) : Option Int32 :=
  some 1
noncomputable def fX7_mayFocus_22 (n : Nat) (Sh : Sp) (M : Mm) (a0 : Nat) (a1 : Int32) : Option Int32 :=
  (fX7_isShown n Sh M a0 a1).bind fun r1 =>
  if r1 = 0 then
    some 0
  else
    (fX7_of n Sh M a0 a1 6).bind fun r2 =>
    if r2 = 1 then
      some 0
    else
      (fX7_of n Sh M a0 a1 7).bind fun r3 =>
      if r3 = (-1) then
        some 0
      else
        (fX7_trapNow n Sh M a0).bind fun r4 =>
        if r4 = (-1) then
          fX7_mayFocus_73 n Sh M a0 a1
        else
          (fX7_isBelow n Sh M a0 a1 r4).bind fun r5 =>
          if r5 = 0 then
            some 0
          else
            fX7_mayFocus_73 n Sh M a0 a1
noncomputable def fX7_mayFocus (n : Nat) (Sh : Sp) (M : Mm) (a0 : Nat) (a1 : Int32) : Option Int32 :=
  (fX7_of n Sh M a0 a1 3).bind fun r6 =>
  if r6 = 2 then
    fX7_mayFocus_22 n Sh M a0 a1
  else
    if r6 = 3 then
      fX7_mayFocus_22 n Sh M a0 a1
    else
      if r6 = 5 then
        fX7_mayFocus_22 n Sh M a0 a1
      else
        some 0
set_option maxRecDepth 100000 in
set_option maxHeartbeats 4000000 in
theorem kX7_mayFocus {l : Launch} {G : Gt} {n : Nat} {Sh : Sp} {M : Mm} {a0 : Nat} {a1 : Int32} (hT : Sh a0 = some (.inl 7)) {r : Int32} (h : fX7_mayFocus n Sh M a0 a1 = some r) : Ct l yX7_mayFocus cX7_mayFocus 4 (some .boolean) rmX7_mayFocus G Sh M [.ref a0, .int a1] (some (.int r)) M := by
  refine Ct.of (by decide) (Nat.le_of_ble_eq_true rfl) ?_
  intro p e s m args below meth c ls C hK hX hP hS hb hlk hr hl
  replace hl : lv_has ls 4 [(0, .ref a0), (1, .int a1)] := hl
  have J73 : ∀ (H : Heap) (locs : List Loc) (ls : Array Slot), HM G Sh M H → SS G s s.heap.size H locs → lv_has ls 4 [(0, .ref a0), (1, .int a1)] → fX7_mayFocus_73 n Sh M a0 a1 = some r → W p l e rmX7_mayFocus s m args below meth c H locs 0 0 (MQ below (QG G Sh M (some (.int r))) args s rmX7_mayFocus.cells rmX7_mayFocus.slots (AA G)) (F0 m 73 ls []) := by
    intro  H locs ls hP hS hl h
    unfold fX7_mayFocus_73 at h
    refine lv_iconst (v := 1) C.1 C.2.1 dX7_mayFocus_73 (by decide) ?_
    refine lv_goto (tgt := 78) C.1 C.2.1 dX7_mayFocus_74 (by decide) ?_
    have e := Option.some.inj h
    exact q_z C hlk hP hS hr (by decide) (by rw [← e]) rfl dX7_mayFocus_78
  have J22 : ∀ (H : Heap) (locs : List Loc) (ls : Array Slot), HM G Sh M H → SS G s s.heap.size H locs → lv_has ls 4 [(0, .ref a0), (1, .int a1)] → fX7_mayFocus_22 n Sh M a0 a1 = some r → W p l e rmX7_mayFocus s m args below meth c H locs 0 0 (MQ below (QG G Sh M (some (.int r))) args s rmX7_mayFocus.cells rmX7_mayFocus.slots (AA G)) (F0 m 22 ls []) := by
    intro  H locs ls hP hS hl h
    unfold fX7_mayFocus_22 at h
    refine lv_aload_n C.1 C.2.1 dX7_mayFocus_22 rfl (lv_at hl 0 rfl) ?_
    refine lv_iload_n C.1 C.2.1 dX7_mayFocus_23 rfl (lv_at hl 1 rfl) ?_
    obtain ⟨r1, hc, h⟩ := bS h
    refine r_V1 C hK hX hb hP hS hl.1 (kX7_isShown (hT) hc) hT cl_7 wd_1264 mo_X7_isShown wd_1266 wd_36 ⟨Nat.le_of_ble_eq_true rfl, Nat.le_of_ble_eq_true rfl⟩ ⟨Nat.le_of_ble_eq_true rfl, Nat.le_of_ble_eq_true rfl⟩ rfl (rest := []) rfl (Nat.le_of_ble_eq_true rfl) dX7_mayFocus_24 (fun H locs hP hS => ?_)
    refine b_eq (tgt := 52) C dX7_mayFocus_27 (by decide) h (fun h => ?_) (fun h => ?_)
    · refine lv_iconst (v := 0) C.1 C.2.1 dX7_mayFocus_52 (by decide) ?_
      have e := Option.some.inj h
      exact q_z C hlk hP hS hr (by decide) (by rw [← e]) rfl dX7_mayFocus_53
    · refine lv_aload_n C.1 C.2.1 dX7_mayFocus_30 rfl (lv_at hl 0 rfl) ?_
      refine lv_iload_n C.1 C.2.1 dX7_mayFocus_31 rfl (lv_at hl 1 rfl) ?_
      refine lv_bipush (v := 6) C.1 C.2.1 dX7_mayFocus_32 (by decide) ?_
      obtain ⟨r2, hc, h⟩ := bS h
      refine r_V1 C hK hX hb hP hS hl.1 (kX7_of (hT) hc) hT cl_7 wd_1197 mo_X7_of wd_1199 wd_24 ⟨Nat.le_of_ble_eq_true rfl, Nat.le_of_ble_eq_true rfl⟩ ⟨Nat.le_of_ble_eq_true rfl, Nat.le_of_ble_eq_true rfl⟩ rfl (rest := []) rfl (Nat.le_of_ble_eq_true rfl) dX7_mayFocus_34 (fun H locs hP hS => ?_)
      refine lv_iconst (v := 1) C.1 C.2.1 dX7_mayFocus_37 (by decide) ?_
      refine b_ieq (tgt := 52) C dX7_mayFocus_38 (by decide) h (fun h => ?_) (fun h => ?_)
      · refine lv_iconst (v := 0) C.1 C.2.1 dX7_mayFocus_52 (by decide) ?_
        have e := Option.some.inj h
        exact q_z C hlk hP hS hr (by decide) (by rw [← e]) rfl dX7_mayFocus_53
      · refine lv_aload_n C.1 C.2.1 dX7_mayFocus_41 rfl (lv_at hl 0 rfl) ?_
        refine lv_iload_n C.1 C.2.1 dX7_mayFocus_42 rfl (lv_at hl 1 rfl) ?_
        refine lv_bipush (v := 7) C.1 C.2.1 dX7_mayFocus_43 (by decide) ?_
        obtain ⟨r3, hc, h⟩ := bS h
        refine r_V1 C hK hX hb hP hS hl.1 (kX7_of (hT) hc) hT cl_7 wd_1197 mo_X7_of wd_1199 wd_24 ⟨Nat.le_of_ble_eq_true rfl, Nat.le_of_ble_eq_true rfl⟩ ⟨Nat.le_of_ble_eq_true rfl, Nat.le_of_ble_eq_true rfl⟩ rfl (rest := []) rfl (Nat.le_of_ble_eq_true rfl) dX7_mayFocus_45 (fun H locs hP hS => ?_)
        refine lv_iconst (v := (-1)) C.1 C.2.1 dX7_mayFocus_48 (by decide) ?_
        refine b_ine (tgt := 54) C dX7_mayFocus_49 (by decide) h (fun h => ?_) (fun h => ?_)
        · refine lv_iconst (v := 0) C.1 C.2.1 dX7_mayFocus_52 (by decide) ?_
          have e := Option.some.inj h
          exact q_z C hlk hP hS hr (by decide) (by rw [← e]) rfl dX7_mayFocus_53
        · refine lv_aload_n C.1 C.2.1 dX7_mayFocus_54 rfl (lv_at hl 0 rfl) ?_
          obtain ⟨r4, hc, h⟩ := bS h
          refine r_V1 C hK hX hb hP hS hl.1 (kX7_trapNow (hT) hc) hT cl_7 wd_1390 mo_X7_trapNow wd_1392 wd_57 ⟨Nat.le_of_ble_eq_true rfl, Nat.le_of_ble_eq_true rfl⟩ ⟨Nat.le_of_ble_eq_true rfl, Nat.le_of_ble_eq_true rfl⟩ rfl (rest := []) rfl (Nat.le_of_ble_eq_true rfl) dX7_mayFocus_55 (fun H locs hP hS => ?_)
          refine lv_istore_n (lv' := [(3, .int r4), (0, .ref a0), (1, .int a1)]) C.1 C.2.1 dX7_mayFocus_58 rfl hl (by decide) rfl (fun ls hl => ?_)
          refine lv_iload_n C.1 C.2.1 dX7_mayFocus_59 rfl (lv_at hl 0 rfl) ?_
          refine lv_iconst (v := (-1)) C.1 C.2.1 dX7_mayFocus_60 (by decide) ?_
          refine b_ieq (tgt := 73) C dX7_mayFocus_61 (by decide) h (fun h => ?_) (fun h => ?_)
          · exact J73  _ _ _ hP hS (lv_sub hl [1, 2] rfl) h
          · refine lv_aload_n C.1 C.2.1 dX7_mayFocus_64 rfl (lv_at hl 1 rfl) ?_
            refine lv_iload_n C.1 C.2.1 dX7_mayFocus_65 rfl (lv_at hl 2 rfl) ?_
            refine lv_iload_n C.1 C.2.1 dX7_mayFocus_66 rfl (lv_at hl 0 rfl) ?_
            obtain ⟨r5, hc, h⟩ := bS h
            refine r_V1 C hK hX hb hP hS hl.1 (kX7_isBelow (hT) hc) hT cl_7 wd_1225 mo_X7_isBelow wd_1227 wd_30 ⟨Nat.le_of_ble_eq_true rfl, Nat.le_of_ble_eq_true rfl⟩ ⟨Nat.le_of_ble_eq_true rfl, Nat.le_of_ble_eq_true rfl⟩ rfl (rest := []) rfl (Nat.le_of_ble_eq_true rfl) dX7_mayFocus_67 (fun H locs hP hS => ?_)
            refine b_eq (tgt := 77) C dX7_mayFocus_70 (by decide) h (fun h => ?_) (fun h => ?_)
            · refine lv_iconst (v := 0) C.1 C.2.1 dX7_mayFocus_77 (by decide) ?_
              have e := Option.some.inj h
              exact q_z C hlk hP hS hr (by decide) (by rw [← e]) rfl dX7_mayFocus_78
            · exact J73  _ _ _ hP hS (lv_sub hl [1, 2] rfl) h
  unfold fX7_mayFocus at h
  refine lv_aload_n C.1 C.2.1 dX7_mayFocus_0 rfl (lv_at hl 0 rfl) ?_
  refine lv_iload_n C.1 C.2.1 dX7_mayFocus_1 rfl (lv_at hl 1 rfl) ?_
  refine lv_iconst (v := 3) C.1 C.2.1 dX7_mayFocus_2 (by decide) ?_
  obtain ⟨r6, hc, h⟩ := bS h
  refine r_V1 C hK hX hb hP hS hl.1 (kX7_of (hT) hc) hT cl_7 wd_1197 mo_X7_of wd_1199 wd_24 ⟨Nat.le_of_ble_eq_true rfl, Nat.le_of_ble_eq_true rfl⟩ ⟨Nat.le_of_ble_eq_true rfl, Nat.le_of_ble_eq_true rfl⟩ rfl (rest := []) rfl (Nat.le_of_ble_eq_true rfl) dX7_mayFocus_3 (fun H locs hP hS => ?_)
  refine lv_istore_n (lv' := [(2, .int r6), (0, .ref a0), (1, .int a1)]) C.1 C.2.1 dX7_mayFocus_6 rfl hl (by decide) rfl (fun ls hl => ?_)
  refine lv_iload_n C.1 C.2.1 dX7_mayFocus_7 rfl (lv_at hl 0 rfl) ?_
  refine lv_iconst (v := 2) C.1 C.2.1 dX7_mayFocus_8 (by decide) ?_
  refine b_ieq (tgt := 22) C dX7_mayFocus_9 (by decide) h (fun h => ?_) (fun h => ?_)
  · exact J22  _ _ _ hP hS (lv_sub hl [1, 2] rfl) h
  · refine lv_iload_n C.1 C.2.1 dX7_mayFocus_12 rfl (lv_at hl 0 rfl) ?_
    refine lv_iconst (v := 3) C.1 C.2.1 dX7_mayFocus_13 (by decide) ?_
    refine b_ieq (tgt := 22) C dX7_mayFocus_14 (by decide) h (fun h => ?_) (fun h => ?_)
    · exact J22  _ _ _ hP hS (lv_sub hl [1, 2] rfl) h
    · refine lv_iload_n C.1 C.2.1 dX7_mayFocus_17 rfl (lv_at hl 0 rfl) ?_
      refine lv_iconst (v := 5) C.1 C.2.1 dX7_mayFocus_18 (by decide) ?_
      refine b_ine (tgt := 52) C dX7_mayFocus_19 (by decide) h (fun h => ?_) (fun h => ?_)
      · exact J22  _ _ _ hP hS (lv_sub hl [1, 2] rfl) h
      · refine lv_iconst (v := 0) C.1 C.2.1 dX7_mayFocus_52 (by decide) ?_
        have e := Option.some.inj h
        exact q_z C hlk hP hS hr (by decide) (by rw [← e]) rfl dX7_mayFocus_53
theorem dX7_layOrder_0 : decode cX7_layOrder 0 = .ok (.aload_n 0, 1) := by decide +kernel
theorem dX7_layOrder_1 : decode cX7_layOrder 1 = .ok (.iconst 0, 1) := by decide +kernel
theorem dX7_layOrder_2 : decode cX7_layOrder 2 = .ok (.putfield 167, 3) := by decide +kernel
theorem dX7_layOrder_5 : decode cX7_layOrder 5 = .ok (.iconst 1, 1) := by decide +kernel
theorem dX7_layOrder_6 : decode cX7_layOrder 6 = .ok (.istore_n 1, 1) := by decide +kernel
theorem dX7_layOrder_7 : decode cX7_layOrder 7 = .ok (.iload_n 1, 1) := by decide +kernel
theorem dX7_layOrder_8 : decode cX7_layOrder 8 = .ok (.bipush 11, 2) := by decide +kernel
theorem dX7_layOrder_10 : decode cX7_layOrder 10 = .ok (.if_icmp .ge 68, 3) := by decide +kernel
theorem dX7_layOrder_13 : decode cX7_layOrder 13 = .ok (.iconst 0, 1) := by decide +kernel
theorem dX7_layOrder_14 : decode cX7_layOrder 14 = .ok (.istore_n 2, 1) := by decide +kernel
theorem dX7_layOrder_15 : decode cX7_layOrder 15 = .ok (.iload_n 2, 1) := by decide +kernel
theorem dX7_layOrder_16 : decode cX7_layOrder 16 = .ok (.iconst (-1), 1) := by decide +kernel
theorem dX7_layOrder_17 : decode cX7_layOrder 17 = .ok (.if_icmp .eq 55, 3) := by decide +kernel
theorem dX7_layOrder_20 : decode cX7_layOrder 20 = .ok (.aload_n 0, 1) := by decide +kernel
theorem dX7_layOrder_21 : decode cX7_layOrder 21 = .ok (.iload_n 2, 1) := by decide +kernel
theorem dX7_layOrder_22 : decode cX7_layOrder 22 = .ok (.bipush 7, 2) := by decide +kernel
theorem dX7_layOrder_24 : decode cX7_layOrder 24 = .ok (.invokevirtual 40, 3) := by decide +kernel
theorem dX7_layOrder_27 : decode cX7_layOrder 27 = .ok (.iload_n 1, 1) := by decide +kernel
theorem dX7_layOrder_28 : decode cX7_layOrder 28 = .ok (.bipush 10, 2) := by decide +kernel
theorem dX7_layOrder_30 : decode cX7_layOrder 30 = .ok (.irem, 1) := by decide +kernel
theorem dX7_layOrder_31 : decode cX7_layOrder 31 = .ok (.if_icmp .ne 31, 3) := by decide +kernel
theorem dX7_layOrder_34 : decode cX7_layOrder 34 = .ok (.aload_n 0, 1) := by decide +kernel
theorem dX7_layOrder_35 : decode cX7_layOrder 35 = .ok (.iload_n 2, 1) := by decide +kernel
theorem dX7_layOrder_36 : decode cX7_layOrder 36 = .ok (.invokevirtual 170, 3) := by decide +kernel
theorem dX7_layOrder_39 : decode cX7_layOrder 39 = .ok (.ifCond .eq 23, 3) := by decide +kernel
theorem dX7_layOrder_42 : decode cX7_layOrder 42 = .ok (.aload_n 0, 1) := by decide +kernel
theorem dX7_layOrder_43 : decode cX7_layOrder 43 = .ok (.getfield 26, 3) := by decide +kernel
theorem dX7_layOrder_46 : decode cX7_layOrder 46 = .ok (.aload_n 0, 1) := by decide +kernel
theorem dX7_layOrder_47 : decode cX7_layOrder 47 = .ok (.getfield 167, 3) := by decide +kernel
theorem dX7_layOrder_50 : decode cX7_layOrder 50 = .ok (.iload_n 2, 1) := by decide +kernel
theorem dX7_layOrder_51 : decode cX7_layOrder 51 = .ok (.iastore, 1) := by decide +kernel
theorem dX7_layOrder_52 : decode cX7_layOrder 52 = .ok (.aload_n 0, 1) := by decide +kernel
theorem dX7_layOrder_53 : decode cX7_layOrder 53 = .ok (.dup, 1) := by decide +kernel
theorem dX7_layOrder_54 : decode cX7_layOrder 54 = .ok (.getfield 167, 3) := by decide +kernel
theorem dX7_layOrder_57 : decode cX7_layOrder 57 = .ok (.iconst 1, 1) := by decide +kernel
theorem dX7_layOrder_58 : decode cX7_layOrder 58 = .ok (.iadd, 1) := by decide +kernel
theorem dX7_layOrder_59 : decode cX7_layOrder 59 = .ok (.putfield 167, 3) := by decide +kernel
theorem dX7_layOrder_62 : decode cX7_layOrder 62 = .ok (.aload_n 0, 1) := by decide +kernel
theorem dX7_layOrder_63 : decode cX7_layOrder 63 = .ok (.iload_n 2, 1) := by decide +kernel
theorem dX7_layOrder_64 : decode cX7_layOrder 64 = .ok (.iconst 0, 1) := by decide +kernel
theorem dX7_layOrder_65 : decode cX7_layOrder 65 = .ok (.invokevirtual 75, 3) := by decide +kernel
theorem dX7_layOrder_68 : decode cX7_layOrder 68 = .ok (.istore_n 2, 1) := by decide +kernel
theorem dX7_layOrder_69 : decode cX7_layOrder 69 = .ok (.goto (-54), 3) := by decide +kernel
theorem dX7_layOrder_72 : decode cX7_layOrder 72 = .ok (.iinc 1 1, 3) := by decide +kernel
theorem dX7_layOrder_75 : decode cX7_layOrder 75 = .ok (.goto (-68), 3) := by decide +kernel
theorem dX7_layOrder_78 : decode cX7_layOrder 78 = .ok (.return_, 1) := by decide +kernel
abbrev rmX7_layOrder : Room := { frames := 6, cells := 0, slots := 0, locals := 152 }
noncomputable def fX7_layOrder_72 (n : Nat) (Sh : Sp) (a0 : Nat) (M : Mm) (v1 : Int32) : Option ((Int32 × Mm) ⊕ Mm) :=
  some (Sum.inl ((v1 + 1), M))
noncomputable def fX7_layOrder_62 (n : Nat) (Sh : Sp) (a0 : Nat) (M : Mm) (v1 : Int32) (v2 : Int32) : Option ((Int32 × Mm) ⊕ ((Int32 × Mm) ⊕ Mm)) :=
  (fX7_following n Sh M a0 v2 0).bind fun r1 =>
  some (Sum.inl (r1, M))
noncomputable def fX7_layOrder_15b (n : Nat) (Sh : Sp) (a0 : Nat) (M : Mm) (v1 : Int32) (v2 : Int32) : Option ((Int32 × Mm) ⊕ ((Int32 × Mm) ⊕ Mm)) :=
  if v2 = (-1) then
    (fX7_layOrder_72 n Sh a0 M v1).map Sum.inr
  else
    (fX7_of n Sh M a0 v2 7).bind fun r2 =>
    chk (¬ (10 : Int32) = 0) <|
    if r2 = (v1 - v1 / 10 * 10) then
      (fX7_mayFocus n Sh M a0 v2).bind fun r3 =>
      if r3 = 0 then
        fX7_layOrder_62 n Sh a0 M v1 v2
      else
        tF M a0 9 fun b4 =>
        tI M a0 10 fun x5 =>
        sI Sh M b4 x5 v2 fun M6 =>
        tI M6 a0 10 fun x7 =>
        qI M6 a0 10 (x7 + 1) fun M8 =>
        fX7_layOrder_62 n Sh a0 M8 v1 v2
    else
      fX7_layOrder_62 n Sh a0 M v1 v2
noncomputable def fX7_layOrder_15 (n : Nat) (Sh : Sp) (a0 : Nat) (M : Mm) (v1 : Int32) (v2 : Int32) : Option ((Int32 × Mm) ⊕ Mm) :=
  iter n (fun s => fX7_layOrder_15b n Sh a0 s.2 v1 s.1) (v2, M)
noncomputable def fX7_layOrder_7b (n : Nat) (Sh : Sp) (a0 : Nat) (M : Mm) (v1 : Int32) : Option ((Int32 × Mm) ⊕ Mm) :=
  if v1 < 11 then
    fX7_layOrder_15 n Sh a0 M v1 0
  else
    some (Sum.inr M)
noncomputable def fX7_layOrder_7 (n : Nat) (Sh : Sp) (a0 : Nat) (M : Mm) (v1 : Int32) : Option Mm :=
  iter n (fun s => fX7_layOrder_7b n Sh a0 s.2 s.1) (v1, M)
noncomputable def fX7_layOrder (n : Nat) (Sh : Sp) (M : Mm) (a0 : Nat) : Option Mm :=
  qI M a0 10 0 fun M9 =>
  fX7_layOrder_7 n Sh a0 M9 1
set_option maxRecDepth 100000 in
set_option maxHeartbeats 4000000 in
theorem kX7_layOrder {l : Launch} {G : Gt} {n : Nat} {Sh : Sp} {M : Mm} {a0 : Nat} (hT : Sh a0 = some (.inl 7)) {r : Mm} (h : fX7_layOrder n Sh M a0 = some r) : Ct l yX7_layOrder cX7_layOrder 3 none rmX7_layOrder G Sh M [.ref a0] none r := by
  refine Ct.of (by decide) (Nat.le_of_ble_eq_true rfl) ?_
  intro p e s m args below meth c ls C hK hX hP hS hb hlk hr hl
  replace hl : lv_has ls 3 [(0, .ref a0)] := hl
  have J7 : ∀ (k : Nat) (v1 : Int32) (M : Mm) (H : Heap) (locs : List Loc) (ls : Array Slot), HM G Sh M H → SS G s s.heap.size H locs → lv_has ls 3 [(0, .ref a0), (1, .int v1)] → iter k (fun s => fX7_layOrder_7b n Sh a0 s.2 s.1) (v1, M) = some r → W p l e rmX7_layOrder s m args below meth c H locs 0 0 (MQ below (QG G Sh r none) args s rmX7_layOrder.cells rmX7_layOrder.slots (AA G)) (F0 m 7 ls []) := by
    intro k
    induction k with
    | zero => intro v1 M H locs ls hP hS hl h; exact (iter_0 h).elim
    | succ k ih1 =>
      intro v1 M H locs ls hP hS hl h
      obtain ⟨z1, h, hz1⟩ := iter_some h
      replace h : fX7_layOrder_7b n Sh a0 M v1 = some z1 := h
      have J72 : ∀ (M : Mm) (v1 : Int32) (H : Heap) (locs : List Loc) (ls : Array Slot), HM G Sh M H → SS G s s.heap.size H locs → lv_has ls 3 [(0, .ref a0), (1, .int v1)] → fX7_layOrder_72 n Sh a0 M v1 = some z1 → W p l e rmX7_layOrder s m args below meth c H locs 0 0 (MQ below (QG G Sh r none) args s rmX7_layOrder.cells rmX7_layOrder.slots (AA G)) (F0 m 72 ls []) := by
        intro M v1 H locs ls hP hS hl h
        unfold fX7_layOrder_72 at h
        refine lv_iinc (v := (v1 + 1)) (lv' := [(1, .int (v1 + 1)), (0, .ref a0)]) C.1 C.2.1 dX7_layOrder_72 hl (k := 1) rfl rfl (by decide) rfl (fun ls hl => ?_)
        refine lv_goto (tgt := 7) C.1 C.2.1 dX7_layOrder_75 (by decide) ?_
        have e := Option.some.inj h
        rw [← e] at hz1
        exact ih1 ((v1 + 1)) M _ _ _ hP hS (lv_sub hl [1, 0] rfl) (itK_inl hz1)
      have J15 : ∀ (v1 : Int32), ∀ (k : Nat) (v2 : Int32) (M : Mm) (H : Heap) (locs : List Loc) (ls : Array Slot), HM G Sh M H → SS G s s.heap.size H locs → lv_has ls 3 [(0, .ref a0), (1, .int v1), (2, .int v2)] → iter k (fun s => fX7_layOrder_15b n Sh a0 s.2 v1 s.1) (v2, M) = some z1 → W p l e rmX7_layOrder s m args below meth c H locs 0 0 (MQ below (QG G Sh r none) args s rmX7_layOrder.cells rmX7_layOrder.slots (AA G)) (F0 m 15 ls []) := by
        intro v1 k
        induction k with
        | zero => intro v2 M H locs ls hP hS hl h; exact (iter_0 h).elim
        | succ k ih2 =>
          intro v2 M H locs ls hP hS hl h
          obtain ⟨z2, h, hz2⟩ := iter_some h
          replace h : fX7_layOrder_15b n Sh a0 M v1 v2 = some z2 := h
          have J62 : ∀ (M : Mm) (v2 : Int32) (H : Heap) (locs : List Loc) (ls : Array Slot), HM G Sh M H → SS G s s.heap.size H locs → lv_has ls 3 [(0, .ref a0), (1, .int v1), (2, .int v2)] → fX7_layOrder_62 n Sh a0 M v1 v2 = some z2 → W p l e rmX7_layOrder s m args below meth c H locs 0 0 (MQ below (QG G Sh r none) args s rmX7_layOrder.cells rmX7_layOrder.slots (AA G)) (F0 m 62 ls []) := by
            intro M v2 H locs ls hP hS hl h
            unfold fX7_layOrder_62 at h
            refine lv_aload_n C.1 C.2.1 dX7_layOrder_62 rfl (lv_at hl 0 rfl) ?_
            refine lv_iload_n C.1 C.2.1 dX7_layOrder_63 rfl (lv_at hl 2 rfl) ?_
            refine lv_iconst (v := 0) C.1 C.2.1 dX7_layOrder_64 (by decide) ?_
            obtain ⟨r1, hc, h⟩ := bS h
            refine r_V1 C hK hX hb hP hS hl.1 (kX7_following (hT) hc) hT cl_7 wd_1319 mo_X7_following wd_1321 wd_47 ⟨Nat.le_of_ble_eq_true rfl, Nat.le_of_ble_eq_true rfl⟩ ⟨Nat.le_of_ble_eq_true rfl, Nat.le_of_ble_eq_true rfl⟩ rfl (rest := []) rfl (Nat.le_of_ble_eq_true rfl) dX7_layOrder_65 (fun H locs hP hS => ?_)
            refine lv_istore_n (lv' := [(2, .int r1), (0, .ref a0), (1, .int v1)]) C.1 C.2.1 dX7_layOrder_68 rfl hl (by decide) rfl (fun ls hl => ?_)
            refine lv_goto (tgt := 15) C.1 C.2.1 dX7_layOrder_69 (by decide) ?_
            have e := Option.some.inj h
            rw [← e] at hz2
            exact ih2 (r1) M _ _ _ hP hS (lv_sub hl [1, 2, 0] rfl) (itK_inl hz2)
          unfold fX7_layOrder_15b at h
          refine lv_iload_n C.1 C.2.1 dX7_layOrder_15 rfl (lv_at hl 2 rfl) ?_
          refine lv_iconst (v := (-1)) C.1 C.2.1 dX7_layOrder_16 (by decide) ?_
          refine b_ieq (tgt := 72) C dX7_layOrder_17 (by decide) h (fun h => ?_) (fun h => ?_)
          · obtain ⟨w2, h, e⟩ := mS h
            rw [← e] at hz2
            replace e := itK_inr hz2
            rw [e] at h
            exact J72 (M) (v1) _ _ _ hP hS (lv_sub hl [0, 1] rfl) h
          · refine lv_aload_n C.1 C.2.1 dX7_layOrder_20 rfl (lv_at hl 0 rfl) ?_
            refine lv_iload_n C.1 C.2.1 dX7_layOrder_21 rfl (lv_at hl 2 rfl) ?_
            refine lv_bipush (v := 7) C.1 C.2.1 dX7_layOrder_22 (by decide) ?_
            obtain ⟨r2, hc, h⟩ := bS h
            refine r_V1 C hK hX hb hP hS hl.1 (kX7_of (hT) hc) hT cl_7 wd_1197 mo_X7_of wd_1199 wd_24 ⟨Nat.le_of_ble_eq_true rfl, Nat.le_of_ble_eq_true rfl⟩ ⟨Nat.le_of_ble_eq_true rfl, Nat.le_of_ble_eq_true rfl⟩ rfl (rest := []) rfl (Nat.le_of_ble_eq_true rfl) dX7_layOrder_24 (fun H locs hP hS => ?_)
            refine lv_iload_n C.1 C.2.1 dX7_layOrder_27 rfl (lv_at hl 1 rfl) ?_
            refine lv_bipush (v := 10) C.1 C.2.1 dX7_layOrder_28 (by decide) ?_
            obtain ⟨hne, h⟩ := chk_some h
            refine lv_irem C.1 C.2.1 dX7_layOrder_30 hne ?_
            refine b_ine (tgt := 62) C dX7_layOrder_31 (by decide) h (fun h => ?_) (fun h => ?_)
            · refine lv_aload_n C.1 C.2.1 dX7_layOrder_34 rfl (lv_at hl 0 rfl) ?_
              refine lv_iload_n C.1 C.2.1 dX7_layOrder_35 rfl (lv_at hl 2 rfl) ?_
              obtain ⟨r3, hc, h⟩ := bS h
              refine r_V1 C hK hX hb hP hS hl.1 (kX7_mayFocus (hT) hc) hT cl_7 wd_1386 mo_X7_mayFocus wd_1388 wd_56 ⟨Nat.le_of_ble_eq_true rfl, Nat.le_of_ble_eq_true rfl⟩ ⟨Nat.le_of_ble_eq_true rfl, Nat.le_of_ble_eq_true rfl⟩ rfl (rest := []) rfl (Nat.le_of_ble_eq_true rfl) dX7_layOrder_36 (fun H locs hP hS => ?_)
              refine b_eq (tgt := 62) C dX7_layOrder_39 (by decide) h (fun h => ?_) (fun h => ?_)
              · exact J62 (M) (v2) _ _ _ hP hS (lv_sub hl [0, 1, 2] rfl) h
              · refine lv_aload_n C.1 C.2.1 dX7_layOrder_42 rfl (lv_at hl 0 rfl) ?_
                refine r_tF C hK hP hT cl_7 (k := 9) (by decide) wd_1153 rfl dX7_layOrder_43 h (fun b4 h => ?_)
                refine lv_aload_n C.1 C.2.1 dX7_layOrder_46 rfl (lv_at hl 0 rfl) ?_
                refine r_tI C hK hP hT cl_7 (k := 10) (by decide) wd_1154 rfl dX7_layOrder_47 h (fun x5 h => ?_)
                refine lv_iload_n C.1 C.2.1 dX7_layOrder_50 rfl (lv_at hl 2 rfl) ?_
                refine r_sI C hK hP hS dX7_layOrder_51 h (fun M6 H locs h hP hS => ?_)
                refine lv_aload_n C.1 C.2.1 dX7_layOrder_52 rfl (lv_at hl 0 rfl) ?_
                refine lv_dup C.1 C.2.1 dX7_layOrder_53 rfl ?_
                refine r_tI C hK hP hT cl_7 (k := 10) (by decide) wd_1154 rfl dX7_layOrder_54 h (fun x7 h => ?_)
                refine lv_iconst (v := 1) C.1 C.2.1 dX7_layOrder_57 (by decide) ?_
                refine lv_iadd C.1 C.2.1 dX7_layOrder_58 ?_
                refine r_qI C hK hP hS hT cl_7 (k := 10) (by decide) wd_1154 rfl rfl (tyX7_ok 10 (by decide)) dX7_layOrder_59 h (fun M8 H locs h hP hS => ?_)
                exact J62 (M8) (v2) _ _ _ hP hS (lv_sub hl [0, 1, 2] rfl) h
            · exact J62 (M) (v2) _ _ _ hP hS (lv_sub hl [0, 1, 2] rfl) h
      unfold fX7_layOrder_7b at h
      refine lv_iload_n C.1 C.2.1 dX7_layOrder_7 rfl (lv_at hl 1 rfl) ?_
      refine lv_bipush (v := 11) C.1 C.2.1 dX7_layOrder_8 (by decide) ?_
      refine b_ige (tgt := 78) C dX7_layOrder_10 (by decide) h (fun h => ?_) (fun h => ?_)
      · refine lv_iconst (v := 0) C.1 C.2.1 dX7_layOrder_13 (by decide) ?_
        refine lv_istore_n (lv' := [(2, .int 0), (0, .ref a0), (1, .int v1)]) C.1 C.2.1 dX7_layOrder_14 rfl hl (by decide) rfl (fun ls hl => ?_)
        exact J15 (v1) n (0) M _ _ _ hP hS (lv_sub hl [1, 2, 0] rfl) h
      · have e := Option.some.inj h
        rw [← e] at hz1
        replace e := itK_inr hz1
        exact q_v C hlk hP hS hr rfl e.symm dX7_layOrder_78
  unfold fX7_layOrder at h
  refine lv_aload_n C.1 C.2.1 dX7_layOrder_0 rfl (lv_at hl 0 rfl) ?_
  refine lv_iconst (v := 0) C.1 C.2.1 dX7_layOrder_1 (by decide) ?_
  refine r_qI C hK hP hS hT cl_7 (k := 10) (by decide) wd_1154 rfl rfl (tyX7_ok 10 (by decide)) dX7_layOrder_2 h (fun M9 H locs h hP hS => ?_)
  refine lv_iconst (v := 1) C.1 C.2.1 dX7_layOrder_5 (by decide) ?_
  refine lv_istore_n (lv' := [(1, .int 1), (0, .ref a0)]) C.1 C.2.1 dX7_layOrder_6 rfl hl (by decide) rfl (fun ls hl => ?_)
  exact J7  n (1) M9 _ _ _ hP hS (lv_sub hl [1, 0] rfl) h
theorem dX7_canFocus_0 : decode cX7_canFocus 0 = .ok (.aload_n 0, 1) := by decide +kernel
theorem dX7_canFocus_1 : decode cX7_canFocus 1 = .ok (.aload_n 0, 1) := by decide +kernel
theorem dX7_canFocus_2 : decode cX7_canFocus 2 = .ok (.iload_n 1, 1) := by decide +kernel
theorem dX7_canFocus_3 : decode cX7_canFocus 3 = .ok (.invokevirtual 123, 3) := by decide +kernel
theorem dX7_canFocus_6 : decode cX7_canFocus 6 = .ok (.ifCond .eq 7, 3) := by decide +kernel
theorem dX7_canFocus_9 : decode cX7_canFocus 9 = .ok (.iconst 0, 1) := by decide +kernel
theorem dX7_canFocus_10 : decode cX7_canFocus 10 = .ok (.goto 4, 3) := by decide +kernel
theorem dX7_canFocus_13 : decode cX7_canFocus 13 = .ok (.iconst 1, 1) := by decide +kernel
theorem dX7_canFocus_14 : decode cX7_canFocus 14 = .ok (.putfield 29, 3) := by decide +kernel
theorem dX7_canFocus_17 : decode cX7_canFocus 17 = .ok (.aload_n 0, 1) := by decide +kernel
theorem dX7_canFocus_18 : decode cX7_canFocus 18 = .ok (.getfield 29, 3) := by decide +kernel
theorem dX7_canFocus_21 : decode cX7_canFocus 21 = .ok (.ifCond .ne 15, 3) := by decide +kernel
theorem dX7_canFocus_24 : decode cX7_canFocus 24 = .ok (.aload_n 0, 1) := by decide +kernel
theorem dX7_canFocus_25 : decode cX7_canFocus 25 = .ok (.iload_n 1, 1) := by decide +kernel
theorem dX7_canFocus_26 : decode cX7_canFocus 26 = .ok (.invokevirtual 170, 3) := by decide +kernel
theorem dX7_canFocus_29 : decode cX7_canFocus 29 = .ok (.ifCond .eq 7, 3) := by decide +kernel
theorem dX7_canFocus_32 : decode cX7_canFocus 32 = .ok (.iconst 1, 1) := by decide +kernel
theorem dX7_canFocus_33 : decode cX7_canFocus 33 = .ok (.goto 4, 3) := by decide +kernel
theorem dX7_canFocus_36 : decode cX7_canFocus 36 = .ok (.iconst 0, 1) := by decide +kernel
theorem dX7_canFocus_37 : decode cX7_canFocus 37 = .ok (.ireturn, 1) := by decide +kernel
abbrev rmX7_canFocus : Room := { frames := 6, cells := 0, slots := 0, locals := 152 }
noncomputable def fX7_canFocus_14 (n : Nat) (Sh : Sp) (a0 : Nat) (a1 : Int32) (M : Mm) (t0 : Nat) (t1 : Int32) : Option (Int32 × Mm) :=
  pI Sh M t0 7 5 t1 fun M1 =>
  tI M1 a0 5 fun x2 =>
  if x2 = 0 then
    (fX7_mayFocus n Sh M1 a0 a1).bind fun r3 =>
    if r3 = 0 then
      some (0, M1)
    else
      some (1, M1)
  else
    some (0, M1)
noncomputable def fX7_canFocus (n : Nat) (Sh : Sp) (M : Mm) (a0 : Nat) (a1 : Int32) : Option (Int32 × Mm) :=
  (fX7_isNode n Sh M a0 a1).bind fun r4 =>
  if r4 = 0 then
    fX7_canFocus_14 n Sh a0 a1 M a0 1
  else
    fX7_canFocus_14 n Sh a0 a1 M a0 0
set_option maxRecDepth 100000 in
set_option maxHeartbeats 4000000 in
theorem kX7_canFocus {l : Launch} {G : Gt} {n : Nat} {Sh : Sp} {M : Mm} {a0 : Nat} {a1 : Int32} (hT : Sh a0 = some (.inl 7)) {r : (Int32 × Mm)} (h : fX7_canFocus n Sh M a0 a1 = some r) : Ct l yX7_canFocus cX7_canFocus 2 (some .boolean) rmX7_canFocus G Sh M [.ref a0, .int a1] (some (.int r.1)) r.2 := by
  refine Ct.of (by decide) (Nat.le_of_ble_eq_true rfl) ?_
  intro p e s m args below meth c ls C hK hX hP hS hb hlk hr hl
  replace hl : lv_has ls 2 [(0, .ref a0), (1, .int a1)] := hl
  have J14 : ∀ (M : Mm) (t0 : Nat) (t1 : Int32) (H : Heap) (locs : List Loc) (ls : Array Slot), HM G Sh M H → SS G s s.heap.size H locs → lv_has ls 2 [(0, .ref a0), (1, .int a1)] → fX7_canFocus_14 n Sh a0 a1 M t0 t1 = some r → W p l e rmX7_canFocus s m args below meth c H locs 0 0 (MQ below (QG G Sh r.2 (some (.int r.1))) args s rmX7_canFocus.cells rmX7_canFocus.slots (AA G)) (F0 m 14 ls [.int t1, .ref t0]) := by
    intro M t0 t1 H locs ls hP hS hl h
    unfold fX7_canFocus_14 at h
    refine r_pI C hK hP hS cl_7 (k := 5) (by decide) wd_1149 rfl rfl (tyX7_ok 5 (by decide)) dX7_canFocus_14 h (fun M1 H locs h hP hS => ?_)
    refine lv_aload_n C.1 C.2.1 dX7_canFocus_17 rfl (lv_at hl 0 rfl) ?_
    refine r_tI C hK hP hT cl_7 (k := 5) (by decide) wd_1149 rfl dX7_canFocus_18 h (fun x2 h => ?_)
    refine b_ne (tgt := 36) C dX7_canFocus_21 (by decide) h (fun h => ?_) (fun h => ?_)
    · refine lv_aload_n C.1 C.2.1 dX7_canFocus_24 rfl (lv_at hl 0 rfl) ?_
      refine lv_iload_n C.1 C.2.1 dX7_canFocus_25 rfl (lv_at hl 1 rfl) ?_
      obtain ⟨r3, hc, h⟩ := bS h
      refine r_V1 C hK hX hb hP hS hl.1 (kX7_mayFocus (hT) hc) hT cl_7 wd_1386 mo_X7_mayFocus wd_1388 wd_56 ⟨Nat.le_of_ble_eq_true rfl, Nat.le_of_ble_eq_true rfl⟩ ⟨Nat.le_of_ble_eq_true rfl, Nat.le_of_ble_eq_true rfl⟩ rfl (rest := []) rfl (Nat.le_of_ble_eq_true rfl) dX7_canFocus_26 (fun H locs hP hS => ?_)
      refine b_eq (tgt := 36) C dX7_canFocus_29 (by decide) h (fun h => ?_) (fun h => ?_)
      · refine lv_iconst (v := 0) C.1 C.2.1 dX7_canFocus_36 (by decide) ?_
        have e := Option.some.inj h
        exact q_z C hlk hP hS hr (by decide) (by rw [← e]) (by rw [← e]) dX7_canFocus_37
      · refine lv_iconst (v := 1) C.1 C.2.1 dX7_canFocus_32 (by decide) ?_
        refine lv_goto (tgt := 37) C.1 C.2.1 dX7_canFocus_33 (by decide) ?_
        have e := Option.some.inj h
        exact q_z C hlk hP hS hr (by decide) (by rw [← e]) (by rw [← e]) dX7_canFocus_37
    · refine lv_iconst (v := 0) C.1 C.2.1 dX7_canFocus_36 (by decide) ?_
      have e := Option.some.inj h
      exact q_z C hlk hP hS hr (by decide) (by rw [← e]) (by rw [← e]) dX7_canFocus_37
  unfold fX7_canFocus at h
  refine lv_aload_n C.1 C.2.1 dX7_canFocus_0 rfl (lv_at hl 0 rfl) ?_
  refine lv_aload_n C.1 C.2.1 dX7_canFocus_1 rfl (lv_at hl 0 rfl) ?_
  refine lv_iload_n C.1 C.2.1 dX7_canFocus_2 rfl (lv_at hl 1 rfl) ?_
  obtain ⟨r4, hc, h⟩ := bS h
  refine r_V1 C hK hX hb hP hS hl.1 (kX7_isNode (hT) hc) hT cl_7 wd_1190 mo_X7_isNode wd_1192 wd_23 ⟨Nat.le_of_ble_eq_true rfl, Nat.le_of_ble_eq_true rfl⟩ ⟨Nat.le_of_ble_eq_true rfl, Nat.le_of_ble_eq_true rfl⟩ rfl (rest := [.ref a0]) rfl (Nat.le_of_ble_eq_true rfl) dX7_canFocus_3 (fun H locs hP hS => ?_)
  refine b_eq (tgt := 13) C dX7_canFocus_6 (by decide) h (fun h => ?_) (fun h => ?_)
  · refine lv_iconst (v := 1) C.1 C.2.1 dX7_canFocus_13 (by decide) ?_
    exact J14 (M) (a0) (1) _ _ _ hP hS (lv_sub hl [0, 1] rfl) h
  · refine lv_iconst (v := 0) C.1 C.2.1 dX7_canFocus_9 (by decide) ?_
    refine lv_goto (tgt := 14) C.1 C.2.1 dX7_canFocus_10 (by decide) ?_
    exact J14 (M) (a0) (0) _ _ _ hP hS (lv_sub hl [0, 1] rfl) h
theorem dX7_focusOrder_0 : decode cX7_focusOrder 0 = .ok (.aload_n 0, 1) := by decide +kernel
theorem dX7_focusOrder_1 : decode cX7_focusOrder 1 = .ok (.iconst 0, 1) := by decide +kernel
theorem dX7_focusOrder_2 : decode cX7_focusOrder 2 = .ok (.putfield 29, 3) := by decide +kernel
theorem dX7_focusOrder_5 : decode cX7_focusOrder 5 = .ok (.aload_n 0, 1) := by decide +kernel
theorem dX7_focusOrder_6 : decode cX7_focusOrder 6 = .ok (.invokevirtual 173, 3) := by decide +kernel
theorem dX7_focusOrder_9 : decode cX7_focusOrder 9 = .ok (.iload_n 1, 1) := by decide +kernel
theorem dX7_focusOrder_10 : decode cX7_focusOrder 10 = .ok (.iconst 0, 1) := by decide +kernel
theorem dX7_focusOrder_11 : decode cX7_focusOrder 11 = .ok (.aload_n 0, 1) := by decide +kernel
theorem dX7_focusOrder_12 : decode cX7_focusOrder 12 = .ok (.getfield 167, 3) := by decide +kernel
theorem dX7_focusOrder_15 : decode cX7_focusOrder 15 = .ok (.iconst 1, 1) := by decide +kernel
theorem dX7_focusOrder_16 : decode cX7_focusOrder 16 = .ok (.isub, 1) := by decide +kernel
theorem dX7_focusOrder_17 : decode cX7_focusOrder 17 = .ok (.invokestatic 36, 3) := by decide +kernel
theorem dX7_focusOrder_20 : decode cX7_focusOrder 20 = .ok (.ifCond .eq 12, 3) := by decide +kernel
theorem dX7_focusOrder_23 : decode cX7_focusOrder 23 = .ok (.aload_n 0, 1) := by decide +kernel
theorem dX7_focusOrder_24 : decode cX7_focusOrder 24 = .ok (.getfield 26, 3) := by decide +kernel
theorem dX7_focusOrder_27 : decode cX7_focusOrder 27 = .ok (.iload_n 1, 1) := by decide +kernel
theorem dX7_focusOrder_28 : decode cX7_focusOrder 28 = .ok (.iaload, 1) := by decide +kernel
theorem dX7_focusOrder_29 : decode cX7_focusOrder 29 = .ok (.goto 4, 3) := by decide +kernel
theorem dX7_focusOrder_32 : decode cX7_focusOrder 32 = .ok (.iconst (-1), 1) := by decide +kernel
theorem dX7_focusOrder_33 : decode cX7_focusOrder 33 = .ok (.ireturn, 1) := by decide +kernel
abbrev rmX7_focusOrder : Room := { frames := 7, cells := 0, slots := 0, locals := 174 }
noncomputable def fX7_focusOrder (n : Nat) (Sh : Sp) (M : Mm) (a0 : Nat) (a1 : Int32) : Option (Int32 × Mm) :=
  qI M a0 5 0 fun M1 =>
  (fX7_layOrder n Sh M1 a0).bind fun r2 =>
  tI r2 a0 10 fun x3 =>
  (fX7_in n Sh r2 a1 0 (x3 - 1)).bind fun r4 =>
  if r4 = 0 then
    some ((-1), r2)
  else
    tF r2 a0 9 fun b5 =>
    aI Sh r2 b5 0 a1 fun x6 =>
    some (x6, r2)
set_option maxRecDepth 100000 in
set_option maxHeartbeats 4000000 in
theorem kX7_focusOrder {l : Launch} {G : Gt} {n : Nat} {Sh : Sp} {M : Mm} {a0 : Nat} {a1 : Int32} (hT : Sh a0 = some (.inl 7)) {r : (Int32 × Mm)} (h : fX7_focusOrder n Sh M a0 a1 = some r) : Ct l yX7_focusOrder cX7_focusOrder 2 (some .int) rmX7_focusOrder G Sh M [.ref a0, .int a1] (some (.int r.1)) r.2 := by
  refine Ct.of (by decide) (Nat.le_of_ble_eq_true rfl) ?_
  intro p e s m args below meth c ls C hK hX hP hS hb hlk hr hl
  replace hl : lv_has ls 2 [(0, .ref a0), (1, .int a1)] := hl
  unfold fX7_focusOrder at h
  refine lv_aload_n C.1 C.2.1 dX7_focusOrder_0 rfl (lv_at hl 0 rfl) ?_
  refine lv_iconst (v := 0) C.1 C.2.1 dX7_focusOrder_1 (by decide) ?_
  refine r_qI C hK hP hS hT cl_7 (k := 5) (by decide) wd_1149 rfl rfl (tyX7_ok 5 (by decide)) dX7_focusOrder_2 h (fun M1 H locs h hP hS => ?_)
  refine lv_aload_n C.1 C.2.1 dX7_focusOrder_5 rfl (lv_at hl 0 rfl) ?_
  obtain ⟨r2, hc, h⟩ := bS h
  refine r_V0 C hK hX hb hP hS hl.1 (kX7_layOrder (hT) hc) hT cl_7 wd_1398 mo_X7_layOrder wd_1400 wd_58 ⟨Nat.le_of_ble_eq_true rfl, Nat.le_of_ble_eq_true rfl⟩ ⟨Nat.le_of_ble_eq_true rfl, Nat.le_of_ble_eq_true rfl⟩ rfl (rest := []) rfl (Nat.le_of_ble_eq_true rfl) dX7_focusOrder_6 (fun H locs hP hS => ?_)
  refine lv_iload_n C.1 C.2.1 dX7_focusOrder_9 rfl (lv_at hl 1 rfl) ?_
  refine lv_iconst (v := 0) C.1 C.2.1 dX7_focusOrder_10 (by decide) ?_
  refine lv_aload_n C.1 C.2.1 dX7_focusOrder_11 rfl (lv_at hl 0 rfl) ?_
  refine r_tI C hK hP hT cl_7 (k := 10) (by decide) wd_1154 rfl dX7_focusOrder_12 h (fun x3 h => ?_)
  refine lv_iconst (v := 1) C.1 C.2.1 dX7_focusOrder_15 (by decide) ?_
  refine lv_isub C.1 C.2.1 dX7_focusOrder_16 ?_
  obtain ⟨r4, hc, h⟩ := bS h
  refine r_S1 C hK hX hb hP hS hl.1 (kX7_in hc) wd_1194 mo_X7_in wd_1195 ⟨Nat.le_of_ble_eq_true rfl, Nat.le_of_ble_eq_true rfl⟩ ⟨Nat.le_of_ble_eq_true rfl, Nat.le_of_ble_eq_true rfl⟩ rfl (rest := []) rfl (Nat.le_of_ble_eq_true rfl) dX7_focusOrder_17 (fun H locs hP hS => ?_)
  refine b_eq (tgt := 32) C dX7_focusOrder_20 (by decide) h (fun h => ?_) (fun h => ?_)
  · refine lv_iconst (v := (-1)) C.1 C.2.1 dX7_focusOrder_32 (by decide) ?_
    have e := Option.some.inj h
    exact q_i C hlk hP hS hr (by rw [← e]) (by rw [← e]) dX7_focusOrder_33
  · refine lv_aload_n C.1 C.2.1 dX7_focusOrder_23 rfl (lv_at hl 0 rfl) ?_
    refine r_tF C hK hP hT cl_7 (k := 9) (by decide) wd_1153 rfl dX7_focusOrder_24 h (fun b5 h => ?_)
    refine lv_iload_n C.1 C.2.1 dX7_focusOrder_27 rfl (lv_at hl 1 rfl) ?_
    refine r_aI C hK hP dX7_focusOrder_28 h (fun x6 h => ?_)
    refine lv_goto (tgt := 33) C.1 C.2.1 dX7_focusOrder_29 (by decide) ?_
    have e := Option.some.inj h
    exact q_i C hlk hP hS hr (by rw [← e]) (by rw [← e]) dX7_focusOrder_33
theorem dX7_focusNow_0 : decode cX7_focusNow 0 = .ok (.aload_n 0, 1) := by decide +kernel
theorem dX7_focusNow_1 : decode cX7_focusNow 1 = .ok (.getfield 7, 3) := by decide +kernel
theorem dX7_focusNow_4 : decode cX7_focusNow 4 = .ok (.sipush 3402, 3) := by decide +kernel
theorem dX7_focusNow_7 : decode cX7_focusNow 7 = .ok (.iaload, 1) := by decide +kernel
theorem dX7_focusNow_8 : decode cX7_focusNow 8 = .ok (.iconst (-1), 1) := by decide +kernel
theorem dX7_focusNow_9 : decode cX7_focusNow 9 = .ok (.if_icmp .eq 29, 3) := by decide +kernel
theorem dX7_focusNow_12 : decode cX7_focusNow 12 = .ok (.aload_n 0, 1) := by decide +kernel
theorem dX7_focusNow_13 : decode cX7_focusNow 13 = .ok (.aload_n 0, 1) := by decide +kernel
theorem dX7_focusNow_14 : decode cX7_focusNow 14 = .ok (.getfield 7, 3) := by decide +kernel
theorem dX7_focusNow_17 : decode cX7_focusNow 17 = .ok (.sipush 3402, 3) := by decide +kernel
theorem dX7_focusNow_20 : decode cX7_focusNow 20 = .ok (.iaload, 1) := by decide +kernel
theorem dX7_focusNow_21 : decode cX7_focusNow 21 = .ok (.invokevirtual 170, 3) := by decide +kernel
theorem dX7_focusNow_24 : decode cX7_focusNow 24 = .ok (.ifCond .eq 14, 3) := by decide +kernel
theorem dX7_focusNow_27 : decode cX7_focusNow 27 = .ok (.aload_n 0, 1) := by decide +kernel
theorem dX7_focusNow_28 : decode cX7_focusNow 28 = .ok (.getfield 7, 3) := by decide +kernel
theorem dX7_focusNow_31 : decode cX7_focusNow 31 = .ok (.sipush 3402, 3) := by decide +kernel
theorem dX7_focusNow_34 : decode cX7_focusNow 34 = .ok (.iaload, 1) := by decide +kernel
theorem dX7_focusNow_35 : decode cX7_focusNow 35 = .ok (.goto 4, 3) := by decide +kernel
theorem dX7_focusNow_38 : decode cX7_focusNow 38 = .ok (.iconst (-1), 1) := by decide +kernel
theorem dX7_focusNow_39 : decode cX7_focusNow 39 = .ok (.ireturn, 1) := by decide +kernel
abbrev rmX7_focusNow : Room := { frames := 6, cells := 0, slots := 0, locals := 152 }
noncomputable def fX7_focusNow (n : Nat) (Sh : Sp) (M : Mm) (a0 : Nat) : Option Int32 :=
  tF M a0 0 fun b1 =>
  aI Sh M b1 0 3402 fun x2 =>
  if x2 = (-1) then
    some (-1)
  else
    tF M a0 0 fun b3 =>
    aI Sh M b3 0 3402 fun x4 =>
    (fX7_mayFocus n Sh M a0 x4).bind fun r5 =>
    if r5 = 0 then
      some (-1)
    else
      tF M a0 0 fun b6 =>
      aI Sh M b6 0 3402 fun x7 =>
      some x7
set_option maxRecDepth 100000 in
set_option maxHeartbeats 4000000 in
theorem kX7_focusNow {l : Launch} {G : Gt} {n : Nat} {Sh : Sp} {M : Mm} {a0 : Nat} (hT : Sh a0 = some (.inl 7)) {r : Int32} (h : fX7_focusNow n Sh M a0 = some r) : Ct l yX7_focusNow cX7_focusNow 1 (some .int) rmX7_focusNow G Sh M [.ref a0] (some (.int r)) M := by
  refine Ct.of (by decide) (Nat.le_of_ble_eq_true rfl) ?_
  intro p e s m args below meth c ls C hK hX hP hS hb hlk hr hl
  replace hl : lv_has ls 1 [(0, .ref a0)] := hl
  unfold fX7_focusNow at h
  refine lv_aload_n C.1 C.2.1 dX7_focusNow_0 rfl (lv_at hl 0 rfl) ?_
  refine r_tF C hK hP hT cl_7 (k := 0) (by decide) wd_1144 rfl dX7_focusNow_1 h (fun b1 h => ?_)
  refine lv_sipush (v := 3402) C.1 C.2.1 dX7_focusNow_4 (by decide) ?_
  refine r_aI C hK hP dX7_focusNow_7 h (fun x2 h => ?_)
  refine lv_iconst (v := (-1)) C.1 C.2.1 dX7_focusNow_8 (by decide) ?_
  refine b_ieq (tgt := 38) C dX7_focusNow_9 (by decide) h (fun h => ?_) (fun h => ?_)
  · refine lv_iconst (v := (-1)) C.1 C.2.1 dX7_focusNow_38 (by decide) ?_
    have e := Option.some.inj h
    exact q_i C hlk hP hS hr (by rw [← e]) rfl dX7_focusNow_39
  · refine lv_aload_n C.1 C.2.1 dX7_focusNow_12 rfl (lv_at hl 0 rfl) ?_
    refine lv_aload_n C.1 C.2.1 dX7_focusNow_13 rfl (lv_at hl 0 rfl) ?_
    refine r_tF C hK hP hT cl_7 (k := 0) (by decide) wd_1144 rfl dX7_focusNow_14 h (fun b3 h => ?_)
    refine lv_sipush (v := 3402) C.1 C.2.1 dX7_focusNow_17 (by decide) ?_
    refine r_aI C hK hP dX7_focusNow_20 h (fun x4 h => ?_)
    obtain ⟨r5, hc, h⟩ := bS h
    refine r_V1 C hK hX hb hP hS hl.1 (kX7_mayFocus (hT) hc) hT cl_7 wd_1386 mo_X7_mayFocus wd_1388 wd_56 ⟨Nat.le_of_ble_eq_true rfl, Nat.le_of_ble_eq_true rfl⟩ ⟨Nat.le_of_ble_eq_true rfl, Nat.le_of_ble_eq_true rfl⟩ rfl (rest := []) rfl (Nat.le_of_ble_eq_true rfl) dX7_focusNow_21 (fun H locs hP hS => ?_)
    refine b_eq (tgt := 38) C dX7_focusNow_24 (by decide) h (fun h => ?_) (fun h => ?_)
    · refine lv_iconst (v := (-1)) C.1 C.2.1 dX7_focusNow_38 (by decide) ?_
      have e := Option.some.inj h
      exact q_i C hlk hP hS hr (by rw [← e]) rfl dX7_focusNow_39
    · refine lv_aload_n C.1 C.2.1 dX7_focusNow_27 rfl (lv_at hl 0 rfl) ?_
      refine r_tF C hK hP hT cl_7 (k := 0) (by decide) wd_1144 rfl dX7_focusNow_28 h (fun b6 h => ?_)
      refine lv_sipush (v := 3402) C.1 C.2.1 dX7_focusNow_31 (by decide) ?_
      refine r_aI C hK hP dX7_focusNow_34 h (fun x7 h => ?_)
      refine lv_goto (tgt := 39) C.1 C.2.1 dX7_focusNow_35 (by decide) ?_
      have e := Option.some.inj h
      exact q_i C hlk hP hS hr (by rw [← e]) rfl dX7_focusNow_39
theorem dX7_focus_0 : decode cX7_focus 0 = .ok (.aload_n 0, 1) := by decide +kernel
theorem dX7_focus_1 : decode cX7_focus 1 = .ok (.iconst 0, 1) := by decide +kernel
theorem dX7_focus_2 : decode cX7_focus 2 = .ok (.putfield 29, 3) := by decide +kernel
theorem dX7_focus_5 : decode cX7_focus 5 = .ok (.aload_n 0, 1) := by decide +kernel
theorem dX7_focus_6 : decode cX7_focus 6 = .ok (.invokevirtual 176, 3) := by decide +kernel
theorem dX7_focus_9 : decode cX7_focus 9 = .ok (.ireturn, 1) := by decide +kernel
abbrev rmX7_focus : Room := { frames := 7, cells := 0, slots := 0, locals := 172 }
noncomputable def fX7_focus (n : Nat) (Sh : Sp) (M : Mm) (a0 : Nat) : Option (Int32 × Mm) :=
  qI M a0 5 0 fun M1 =>
  (fX7_focusNow n Sh M1 a0).bind fun r2 =>
  some (r2, M1)
set_option maxRecDepth 100000 in
set_option maxHeartbeats 4000000 in
theorem kX7_focus {l : Launch} {G : Gt} {n : Nat} {Sh : Sp} {M : Mm} {a0 : Nat} (hT : Sh a0 = some (.inl 7)) {r : (Int32 × Mm)} (h : fX7_focus n Sh M a0 = some r) : Ct l yX7_focus cX7_focus 1 (some .int) rmX7_focus G Sh M [.ref a0] (some (.int r.1)) r.2 := by
  refine Ct.of (by decide) (Nat.le_of_ble_eq_true rfl) ?_
  intro p e s m args below meth c ls C hK hX hP hS hb hlk hr hl
  replace hl : lv_has ls 1 [(0, .ref a0)] := hl
  unfold fX7_focus at h
  refine lv_aload_n C.1 C.2.1 dX7_focus_0 rfl (lv_at hl 0 rfl) ?_
  refine lv_iconst (v := 0) C.1 C.2.1 dX7_focus_1 (by decide) ?_
  refine r_qI C hK hP hS hT cl_7 (k := 5) (by decide) wd_1149 rfl rfl (tyX7_ok 5 (by decide)) dX7_focus_2 h (fun M1 H locs h hP hS => ?_)
  refine lv_aload_n C.1 C.2.1 dX7_focus_5 rfl (lv_at hl 0 rfl) ?_
  obtain ⟨r2, hc, h⟩ := bS h
  refine r_V1 C hK hX hb hP hS hl.1 (kX7_focusNow (hT) hc) hT cl_7 wd_1406 mo_X7_focusNow wd_1408 wd_59 ⟨Nat.le_of_ble_eq_true rfl, Nat.le_of_ble_eq_true rfl⟩ ⟨Nat.le_of_ble_eq_true rfl, Nat.le_of_ble_eq_true rfl⟩ rfl (rest := []) rfl (Nat.le_of_ble_eq_true rfl) dX7_focus_6 (fun H locs hP hS => ?_)
  have e := Option.some.inj h
  exact q_i C hlk hP hS hr (by rw [← e]) (by rw [← e]) dX7_focus_9
