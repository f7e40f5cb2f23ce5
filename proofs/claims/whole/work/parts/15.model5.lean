theorem dX7_focuses_0 : decode cX7_focuses 0 = .ok (.aload_n 0, 1) := by decide +kernel
theorem dX7_focuses_1 : decode cX7_focuses 1 = .ok (.getfield 7, 3) := by decide +kernel
theorem dX7_focuses_4 : decode cX7_focuses 4 = .ok (.sipush 3402, 3) := by decide +kernel
theorem dX7_focuses_7 : decode cX7_focuses 7 = .ok (.iload_n 1, 1) := by decide +kernel
theorem dX7_focuses_8 : decode cX7_focuses 8 = .ok (.iastore, 1) := by decide +kernel
theorem dX7_focuses_9 : decode cX7_focuses 9 = .ok (.aload_n 0, 1) := by decide +kernel
theorem dX7_focuses_10 : decode cX7_focuses 10 = .ok (.iload_n 1, 1) := by decide +kernel
theorem dX7_focuses_11 : decode cX7_focuses 11 = .ok (.invokevirtual 179, 3) := by decide +kernel
theorem dX7_focuses_14 : decode cX7_focuses 14 = .ok (.return_, 1) := by decide +kernel
abbrev rmX7_focuses : Room := { frames := 10, cells := 0, slots := 0, locals := 242 }
noncomputable def fX7_focuses (n : Nat) (Sh : Sp) (M : Mm) (a0 : Nat) (a1 : Int32) : Option Mm :=
  tF M a0 0 fun b1 =>
  sI Sh M b1 3402 a1 fun M2 =>
  (fX7_announceFocus n Sh M2 a0 a1).bind fun r3 =>
  some r3
set_option maxRecDepth 100000 in
set_option maxHeartbeats 4000000 in
theorem kX7_focuses {l : Launch} {G : Gt} {n : Nat} {Sh : Sp} {M : Mm} {a0 : Nat} {a1 : Int32} (hT : Sh a0 = some (.inl 7)) {r : Mm} (h : fX7_focuses n Sh M a0 a1 = some r) : Ct l yX7_focuses cX7_focuses 2 none rmX7_focuses G Sh M [.ref a0, .int a1] none r := by
  refine Ct.of (by decide) (Nat.le_of_ble_eq_true rfl) ?_
  intro p e s m args below meth c ls C hK hX hP hS hb hlk hr hl
  replace hl : lv_has ls 2 [(0, .ref a0), (1, .int a1)] := hl
  unfold fX7_focuses at h
  refine lv_aload_n C.1 C.2.1 dX7_focuses_0 rfl (lv_at hl 0 rfl) ?_
  refine r_tF C hK hP hT cl_7 (k := 0) (by decide) wd_1144 rfl dX7_focuses_1 h (fun b1 h => ?_)
  refine lv_sipush (v := 3402) C.1 C.2.1 dX7_focuses_4 (by decide) ?_
  refine lv_iload_n C.1 C.2.1 dX7_focuses_7 rfl (lv_at hl 1 rfl) ?_
  refine r_sI C hK hP hS dX7_focuses_8 h (fun M2 H locs h hP hS => ?_)
  refine lv_aload_n C.1 C.2.1 dX7_focuses_9 rfl (lv_at hl 0 rfl) ?_
  refine lv_iload_n C.1 C.2.1 dX7_focuses_10 rfl (lv_at hl 1 rfl) ?_
  obtain ⟨r3, hc, h⟩ := bS h
  refine r_V0 C hK hX hb hP hS hl.1 (kX7_announceFocus (hT) hc) hT cl_7 wd_1418 mo_X7_announceFocus wd_1420 wd_61 ⟨Nat.le_of_ble_eq_true rfl, Nat.le_of_ble_eq_true rfl⟩ ⟨Nat.le_of_ble_eq_true rfl, Nat.le_of_ble_eq_true rfl⟩ rfl (rest := []) rfl (Nat.le_of_ble_eq_true rfl) dX7_focuses_11 (fun H locs hP hS => ?_)
  have e := Option.some.inj h
  exact q_v C hlk hP hS hr rfl e.symm dX7_focuses_14
theorem dX7_focusOn_0 : decode cX7_focusOn 0 = .ok (.aload_n 0, 1) := by decide +kernel
theorem dX7_focusOn_1 : decode cX7_focusOn 1 = .ok (.aload_n 0, 1) := by decide +kernel
theorem dX7_focusOn_2 : decode cX7_focusOn 2 = .ok (.iload_n 1, 1) := by decide +kernel
theorem dX7_focusOn_3 : decode cX7_focusOn 3 = .ok (.invokevirtual 123, 3) := by decide +kernel
theorem dX7_focusOn_6 : decode cX7_focusOn 6 = .ok (.ifCond .ne 7, 3) := by decide +kernel
theorem dX7_focusOn_9 : decode cX7_focusOn 9 = .ok (.iconst 1, 1) := by decide +kernel
theorem dX7_focusOn_10 : decode cX7_focusOn 10 = .ok (.goto 16, 3) := by decide +kernel
theorem dX7_focusOn_13 : decode cX7_focusOn 13 = .ok (.aload_n 0, 1) := by decide +kernel
theorem dX7_focusOn_14 : decode cX7_focusOn 14 = .ok (.iload_n 1, 1) := by decide +kernel
theorem dX7_focusOn_15 : decode cX7_focusOn 15 = .ok (.invokevirtual 170, 3) := by decide +kernel
theorem dX7_focusOn_18 : decode cX7_focusOn 18 = .ok (.ifCond .eq 7, 3) := by decide +kernel
theorem dX7_focusOn_21 : decode cX7_focusOn 21 = .ok (.iconst 0, 1) := by decide +kernel
theorem dX7_focusOn_22 : decode cX7_focusOn 22 = .ok (.goto 4, 3) := by decide +kernel
theorem dX7_focusOn_25 : decode cX7_focusOn 25 = .ok (.iconst 2, 1) := by decide +kernel
theorem dX7_focusOn_26 : decode cX7_focusOn 26 = .ok (.putfield 29, 3) := by decide +kernel
theorem dX7_focusOn_29 : decode cX7_focusOn 29 = .ok (.aload_n 0, 1) := by decide +kernel
theorem dX7_focusOn_30 : decode cX7_focusOn 30 = .ok (.getfield 29, 3) := by decide +kernel
theorem dX7_focusOn_33 : decode cX7_focusOn 33 = .ok (.ifCond .eq 5, 3) := by decide +kernel
theorem dX7_focusOn_36 : decode cX7_focusOn 36 = .ok (.iconst 0, 1) := by decide +kernel
theorem dX7_focusOn_37 : decode cX7_focusOn 37 = .ok (.ireturn, 1) := by decide +kernel
theorem dX7_focusOn_38 : decode cX7_focusOn 38 = .ok (.aload_n 0, 1) := by decide +kernel
theorem dX7_focusOn_39 : decode cX7_focusOn 39 = .ok (.invokevirtual 133, 3) := by decide +kernel
theorem dX7_focusOn_42 : decode cX7_focusOn 42 = .ok (.aload_n 0, 1) := by decide +kernel
theorem dX7_focusOn_43 : decode cX7_focusOn 43 = .ok (.invokevirtual 176, 3) := by decide +kernel
theorem dX7_focusOn_46 : decode cX7_focusOn 46 = .ok (.istore_n 2, 1) := by decide +kernel
theorem dX7_focusOn_47 : decode cX7_focusOn 47 = .ok (.aload_n 0, 1) := by decide +kernel
theorem dX7_focusOn_48 : decode cX7_focusOn 48 = .ok (.iload_n 1, 1) := by decide +kernel
theorem dX7_focusOn_49 : decode cX7_focusOn 49 = .ok (.invokevirtual 182, 3) := by decide +kernel
theorem dX7_focusOn_52 : decode cX7_focusOn 52 = .ok (.iload_n 2, 1) := by decide +kernel
theorem dX7_focusOn_53 : decode cX7_focusOn 53 = .ok (.ireturn, 1) := by decide +kernel
abbrev rmX7_focusOn : Room := { frames := 11, cells := 0, slots := 0, locals := 263 }
noncomputable def fX7_focusOn_26 (n : Nat) (Sh : Sp) (a0 : Nat) (a1 : Int32) (M : Mm) (t0 : Nat) (t1 : Int32) : Option (Int32 × Mm) :=
  pI Sh M t0 7 5 t1 fun M1 =>
  tI M1 a0 5 fun x2 =>
  if x2 = 0 then
    (fX7_keep n Sh M1 a0).bind fun r3 =>
    (fX7_focusNow n Sh r3 a0).bind fun r4 =>
    (fX7_focuses n Sh r3 a0 a1).bind fun r5 =>
    some (r4, r5)
  else
    some (0, M1)
noncomputable def fX7_focusOn (n : Nat) (Sh : Sp) (M : Mm) (a0 : Nat) (a1 : Int32) : Option (Int32 × Mm) :=
  (fX7_isNode n Sh M a0 a1).bind fun r6 =>
  if r6 = 0 then
    fX7_focusOn_26 n Sh a0 a1 M a0 1
  else
    (fX7_mayFocus n Sh M a0 a1).bind fun r7 =>
    if r7 = 0 then
      fX7_focusOn_26 n Sh a0 a1 M a0 2
    else
      fX7_focusOn_26 n Sh a0 a1 M a0 0
set_option maxRecDepth 100000 in
set_option maxHeartbeats 4000000 in
theorem kX7_focusOn {l : Launch} {G : Gt} {n : Nat} {Sh : Sp} {M : Mm} {a0 : Nat} {a1 : Int32} (hT : Sh a0 = some (.inl 7)) {r : (Int32 × Mm)} (h : fX7_focusOn n Sh M a0 a1 = some r) : Ct l yX7_focusOn cX7_focusOn 3 (some .int) rmX7_focusOn G Sh M [.ref a0, .int a1] (some (.int r.1)) r.2 := by
  refine Ct.of (by decide) (Nat.le_of_ble_eq_true rfl) ?_
  intro p e s m args below meth c ls C hK hX hP hS hb hlk hr hl
  replace hl : lv_has ls 3 [(0, .ref a0), (1, .int a1)] := hl
  have J26 : ∀ (M : Mm) (t0 : Nat) (t1 : Int32) (H : Heap) (locs : List Loc) (ls : Array Slot), HM G Sh M H → SS G s s.heap.size H locs → lv_has ls 3 [(0, .ref a0), (1, .int a1)] → fX7_focusOn_26 n Sh a0 a1 M t0 t1 = some r → W p l e rmX7_focusOn s m args below meth c H locs 0 0 (MQ below (QG G Sh r.2 (some (.int r.1))) args s rmX7_focusOn.cells rmX7_focusOn.slots (AA G)) (F0 m 26 ls [.int t1, .ref t0]) := by
    intro M t0 t1 H locs ls hP hS hl h
    unfold fX7_focusOn_26 at h
    refine r_pI C hK hP hS cl_7 (k := 5) (by decide) wd_1149 rfl rfl (tyX7_ok 5 (by decide)) dX7_focusOn_26 h (fun M1 H locs h hP hS => ?_)
    refine lv_aload_n C.1 C.2.1 dX7_focusOn_29 rfl (lv_at hl 0 rfl) ?_
    refine r_tI C hK hP hT cl_7 (k := 5) (by decide) wd_1149 rfl dX7_focusOn_30 h (fun x2 h => ?_)
    refine b_eq (tgt := 38) C dX7_focusOn_33 (by decide) h (fun h => ?_) (fun h => ?_)
    · refine lv_aload_n C.1 C.2.1 dX7_focusOn_38 rfl (lv_at hl 0 rfl) ?_
      obtain ⟨r3, hc, h⟩ := bS h
      refine r_V0 C hK hX hb hP hS hl.1 (kX7_keep (hT) hc) hT cl_7 wd_1209 mo_X7_keep wd_1211 wd_27 ⟨Nat.le_of_ble_eq_true rfl, Nat.le_of_ble_eq_true rfl⟩ ⟨Nat.le_of_ble_eq_true rfl, Nat.le_of_ble_eq_true rfl⟩ rfl (rest := []) rfl (Nat.le_of_ble_eq_true rfl) dX7_focusOn_39 (fun H locs hP hS => ?_)
      refine lv_aload_n C.1 C.2.1 dX7_focusOn_42 rfl (lv_at hl 0 rfl) ?_
      obtain ⟨r4, hc, h⟩ := bS h
      refine r_V1 C hK hX hb hP hS hl.1 (kX7_focusNow (hT) hc) hT cl_7 wd_1406 mo_X7_focusNow wd_1408 wd_59 ⟨Nat.le_of_ble_eq_true rfl, Nat.le_of_ble_eq_true rfl⟩ ⟨Nat.le_of_ble_eq_true rfl, Nat.le_of_ble_eq_true rfl⟩ rfl (rest := []) rfl (Nat.le_of_ble_eq_true rfl) dX7_focusOn_43 (fun H locs hP hS => ?_)
      refine lv_istore_n (lv' := [(2, .int r4), (0, .ref a0), (1, .int a1)]) C.1 C.2.1 dX7_focusOn_46 rfl hl (by decide) rfl (fun ls hl => ?_)
      refine lv_aload_n C.1 C.2.1 dX7_focusOn_47 rfl (lv_at hl 1 rfl) ?_
      refine lv_iload_n C.1 C.2.1 dX7_focusOn_48 rfl (lv_at hl 2 rfl) ?_
      obtain ⟨r5, hc, h⟩ := bS h
      refine r_V0 C hK hX hb hP hS hl.1 (kX7_focuses (hT) hc) hT cl_7 wd_1414 mo_X7_focuses wd_1416 wd_60 ⟨Nat.le_of_ble_eq_true rfl, Nat.le_of_ble_eq_true rfl⟩ ⟨Nat.le_of_ble_eq_true rfl, Nat.le_of_ble_eq_true rfl⟩ rfl (rest := []) rfl (Nat.le_of_ble_eq_true rfl) dX7_focusOn_49 (fun H locs hP hS => ?_)
      refine lv_iload_n C.1 C.2.1 dX7_focusOn_52 rfl (lv_at hl 0 rfl) ?_
      have e := Option.some.inj h
      exact q_i C hlk hP hS hr (by rw [← e]) (by rw [← e]) dX7_focusOn_53
    · refine lv_iconst (v := 0) C.1 C.2.1 dX7_focusOn_36 (by decide) ?_
      have e := Option.some.inj h
      exact q_i C hlk hP hS hr (by rw [← e]) (by rw [← e]) dX7_focusOn_37
  unfold fX7_focusOn at h
  refine lv_aload_n C.1 C.2.1 dX7_focusOn_0 rfl (lv_at hl 0 rfl) ?_
  refine lv_aload_n C.1 C.2.1 dX7_focusOn_1 rfl (lv_at hl 0 rfl) ?_
  refine lv_iload_n C.1 C.2.1 dX7_focusOn_2 rfl (lv_at hl 1 rfl) ?_
  obtain ⟨r6, hc, h⟩ := bS h
  refine r_V1 C hK hX hb hP hS hl.1 (kX7_isNode (hT) hc) hT cl_7 wd_1190 mo_X7_isNode wd_1192 wd_23 ⟨Nat.le_of_ble_eq_true rfl, Nat.le_of_ble_eq_true rfl⟩ ⟨Nat.le_of_ble_eq_true rfl, Nat.le_of_ble_eq_true rfl⟩ rfl (rest := [.ref a0]) rfl (Nat.le_of_ble_eq_true rfl) dX7_focusOn_3 (fun H locs hP hS => ?_)
  refine b_ne (tgt := 13) C dX7_focusOn_6 (by decide) h (fun h => ?_) (fun h => ?_)
  · refine lv_iconst (v := 1) C.1 C.2.1 dX7_focusOn_9 (by decide) ?_
    refine lv_goto (tgt := 26) C.1 C.2.1 dX7_focusOn_10 (by decide) ?_
    exact J26 (M) (a0) (1) _ _ _ hP hS (lv_sub hl [0, 1] rfl) h
  · refine lv_aload_n C.1 C.2.1 dX7_focusOn_13 rfl (lv_at hl 0 rfl) ?_
    refine lv_iload_n C.1 C.2.1 dX7_focusOn_14 rfl (lv_at hl 1 rfl) ?_
    obtain ⟨r7, hc, h⟩ := bS h
    refine r_V1 C hK hX hb hP hS hl.1 (kX7_mayFocus (hT) hc) hT cl_7 wd_1386 mo_X7_mayFocus wd_1388 wd_56 ⟨Nat.le_of_ble_eq_true rfl, Nat.le_of_ble_eq_true rfl⟩ ⟨Nat.le_of_ble_eq_true rfl, Nat.le_of_ble_eq_true rfl⟩ rfl (rest := [.ref a0]) rfl (Nat.le_of_ble_eq_true rfl) dX7_focusOn_15 (fun H locs hP hS => ?_)
    refine b_eq (tgt := 25) C dX7_focusOn_18 (by decide) h (fun h => ?_) (fun h => ?_)
    · refine lv_iconst (v := 2) C.1 C.2.1 dX7_focusOn_25 (by decide) ?_
      exact J26 (M) (a0) (2) _ _ _ hP hS (lv_sub hl [0, 1] rfl) h
    · refine lv_iconst (v := 0) C.1 C.2.1 dX7_focusOn_21 (by decide) ?_
      refine lv_goto (tgt := 26) C.1 C.2.1 dX7_focusOn_22 (by decide) ?_
      exact J26 (M) (a0) (0) _ _ _ hP hS (lv_sub hl [0, 1] rfl) h
theorem dX7_step_0 : decode cX7_step 0 = .ok (.aload_n 0, 1) := by decide +kernel
theorem dX7_step_1 : decode cX7_step 1 = .ok (.iconst 0, 1) := by decide +kernel
theorem dX7_step_2 : decode cX7_step 2 = .ok (.putfield 29, 3) := by decide +kernel
theorem dX7_step_5 : decode cX7_step 5 = .ok (.aload_n 0, 1) := by decide +kernel
theorem dX7_step_6 : decode cX7_step 6 = .ok (.invokevirtual 133, 3) := by decide +kernel
theorem dX7_step_9 : decode cX7_step 9 = .ok (.aload_n 0, 1) := by decide +kernel
theorem dX7_step_10 : decode cX7_step 10 = .ok (.invokevirtual 173, 3) := by decide +kernel
theorem dX7_step_13 : decode cX7_step 13 = .ok (.aload_n 0, 1) := by decide +kernel
theorem dX7_step_14 : decode cX7_step 14 = .ok (.getfield 167, 3) := by decide +kernel
theorem dX7_step_17 : decode cX7_step 17 = .ok (.ifCond .ne 5, 3) := by decide +kernel
theorem dX7_step_20 : decode cX7_step 20 = .ok (.iconst (-1), 1) := by decide +kernel
theorem dX7_step_21 : decode cX7_step 21 = .ok (.ireturn, 1) := by decide +kernel
theorem dX7_step_22 : decode cX7_step 22 = .ok (.aload_n 0, 1) := by decide +kernel
theorem dX7_step_23 : decode cX7_step 23 = .ok (.invokevirtual 176, 3) := by decide +kernel
theorem dX7_step_26 : decode cX7_step 26 = .ok (.istore_n 2, 1) := by decide +kernel
theorem dX7_step_27 : decode cX7_step 27 = .ok (.iload_n 1, 1) := by decide +kernel
theorem dX7_step_28 : decode cX7_step 28 = .ok (.ifCond .eq 12, 3) := by decide +kernel
theorem dX7_step_31 : decode cX7_step 31 = .ok (.aload_n 0, 1) := by decide +kernel
theorem dX7_step_32 : decode cX7_step 32 = .ok (.getfield 167, 3) := by decide +kernel
theorem dX7_step_35 : decode cX7_step 35 = .ok (.iconst 1, 1) := by decide +kernel
theorem dX7_step_36 : decode cX7_step 36 = .ok (.isub, 1) := by decide +kernel
theorem dX7_step_37 : decode cX7_step 37 = .ok (.goto 4, 3) := by decide +kernel
theorem dX7_step_40 : decode cX7_step 40 = .ok (.iconst 0, 1) := by decide +kernel
theorem dX7_step_41 : decode cX7_step 41 = .ok (.istore_n 3, 1) := by decide +kernel
theorem dX7_step_42 : decode cX7_step 42 = .ok (.iconst 0, 1) := by decide +kernel
theorem dX7_step_43 : decode cX7_step 43 = .ok (.istore 4, 2) := by decide +kernel
theorem dX7_step_45 : decode cX7_step 45 = .ok (.iload 4, 2) := by decide +kernel
theorem dX7_step_47 : decode cX7_step 47 = .ok (.aload_n 0, 1) := by decide +kernel
theorem dX7_step_48 : decode cX7_step 48 = .ok (.getfield 167, 3) := by decide +kernel
theorem dX7_step_51 : decode cX7_step 51 = .ok (.if_icmp .ge 47, 3) := by decide +kernel
theorem dX7_step_54 : decode cX7_step 54 = .ok (.aload_n 0, 1) := by decide +kernel
theorem dX7_step_55 : decode cX7_step 55 = .ok (.getfield 26, 3) := by decide +kernel
theorem dX7_step_58 : decode cX7_step 58 = .ok (.iload 4, 2) := by decide +kernel
theorem dX7_step_60 : decode cX7_step 60 = .ok (.iaload, 1) := by decide +kernel
theorem dX7_step_61 : decode cX7_step 61 = .ok (.iload_n 2, 1) := by decide +kernel
theorem dX7_step_62 : decode cX7_step 62 = .ok (.if_icmp .ne 28, 3) := by decide +kernel
theorem dX7_step_65 : decode cX7_step 65 = .ok (.iload 4, 2) := by decide +kernel
theorem dX7_step_67 : decode cX7_step 67 = .ok (.iload_n 1, 1) := by decide +kernel
theorem dX7_step_68 : decode cX7_step 68 = .ok (.ifCond .eq 12, 3) := by decide +kernel
theorem dX7_step_71 : decode cX7_step 71 = .ok (.aload_n 0, 1) := by decide +kernel
theorem dX7_step_72 : decode cX7_step 72 = .ok (.getfield 167, 3) := by decide +kernel
theorem dX7_step_75 : decode cX7_step 75 = .ok (.iconst 1, 1) := by decide +kernel
theorem dX7_step_76 : decode cX7_step 76 = .ok (.isub, 1) := by decide +kernel
theorem dX7_step_77 : decode cX7_step 77 = .ok (.goto 4, 3) := by decide +kernel
theorem dX7_step_80 : decode cX7_step 80 = .ok (.iconst 1, 1) := by decide +kernel
theorem dX7_step_81 : decode cX7_step 81 = .ok (.iadd, 1) := by decide +kernel
theorem dX7_step_82 : decode cX7_step 82 = .ok (.aload_n 0, 1) := by decide +kernel
theorem dX7_step_83 : decode cX7_step 83 = .ok (.getfield 167, 3) := by decide +kernel
theorem dX7_step_86 : decode cX7_step 86 = .ok (.irem, 1) := by decide +kernel
theorem dX7_step_87 : decode cX7_step 87 = .ok (.goto 4, 3) := by decide +kernel
theorem dX7_step_90 : decode cX7_step 90 = .ok (.iload_n 3, 1) := by decide +kernel
theorem dX7_step_91 : decode cX7_step 91 = .ok (.istore_n 3, 1) := by decide +kernel
theorem dX7_step_92 : decode cX7_step 92 = .ok (.iinc 4 1, 3) := by decide +kernel
theorem dX7_step_95 : decode cX7_step 95 = .ok (.goto (-50), 3) := by decide +kernel
theorem dX7_step_98 : decode cX7_step 98 = .ok (.aload_n 0, 1) := by decide +kernel
theorem dX7_step_99 : decode cX7_step 99 = .ok (.aload_n 0, 1) := by decide +kernel
theorem dX7_step_100 : decode cX7_step 100 = .ok (.getfield 26, 3) := by decide +kernel
theorem dX7_step_103 : decode cX7_step 103 = .ok (.iload_n 3, 1) := by decide +kernel
theorem dX7_step_104 : decode cX7_step 104 = .ok (.iaload, 1) := by decide +kernel
theorem dX7_step_105 : decode cX7_step 105 = .ok (.invokevirtual 182, 3) := by decide +kernel
theorem dX7_step_108 : decode cX7_step 108 = .ok (.aload_n 0, 1) := by decide +kernel
theorem dX7_step_109 : decode cX7_step 109 = .ok (.invokevirtual 176, 3) := by decide +kernel
theorem dX7_step_112 : decode cX7_step 112 = .ok (.ireturn, 1) := by decide +kernel
abbrev rmX7_step : Room := { frames := 11, cells := 0, slots := 0, locals := 263 }
noncomputable def fX7_step_98 (n : Nat) (Sh : Sp) (a0 : Nat) (a1 : Int32) (M : Mm) (v3 : Int32) : Option (Int32 × Mm) :=
  tF M a0 9 fun b1 =>
  aI Sh M b1 0 v3 fun x2 =>
  (fX7_focuses n Sh M a0 x2).bind fun r3 =>
  (fX7_focusNow n Sh r3 a0).bind fun r4 =>
  some (r4, r3)
noncomputable def fX7_step_91 (n : Nat) (Sh : Sp) (a0 : Nat) (a1 : Int32) (M : Mm) (v2 : Int32) (v4 : Int32) (t0 : Int32) : Option ((Int32 × Int32) ⊕ (Int32 × Mm)) :=
  some (Sum.inl (t0, (v4 + 1)))
noncomputable def fX7_step_81 (n : Nat) (Sh : Sp) (a0 : Nat) (a1 : Int32) (M : Mm) (v2 : Int32) (v4 : Int32) (t0 : Int32) (t1 : Int32) : Option ((Int32 × Int32) ⊕ (Int32 × Mm)) :=
  tI M a0 10 fun x5 =>
  chk (¬ (x5 : Int32) = 0) <|
  fX7_step_91 n Sh a0 a1 M v2 v4 ((t0 + t1) - (t0 + t1) / x5 * x5)
noncomputable def fX7_step_45b (n : Nat) (Sh : Sp) (a0 : Nat) (a1 : Int32) (M : Mm) (v2 : Int32) (v3 : Int32) (v4 : Int32) : Option ((Int32 × Int32) ⊕ (Int32 × Mm)) :=
  tI M a0 10 fun x6 =>
  if v4 < x6 then
    tF M a0 9 fun b7 =>
    aI Sh M b7 0 v4 fun x8 =>
    if x8 = v2 then
      if a1 = 0 then
        fX7_step_81 n Sh a0 a1 M v2 v4 v4 1
      else
        tI M a0 10 fun x9 =>
        fX7_step_81 n Sh a0 a1 M v2 v4 v4 (x9 - 1)
    else
      fX7_step_91 n Sh a0 a1 M v2 v4 v3
  else
    (fX7_step_98 n Sh a0 a1 M v3).map Sum.inr
noncomputable def fX7_step_45 (n : Nat) (Sh : Sp) (a0 : Nat) (a1 : Int32) (M : Mm) (v2 : Int32) (v3 : Int32) (v4 : Int32) : Option (Int32 × Mm) :=
  iter n (fun s => fX7_step_45b n Sh a0 a1 M v2 s.1 s.2) (v3, v4)
noncomputable def fX7_step_41 (n : Nat) (Sh : Sp) (a0 : Nat) (a1 : Int32) (M : Mm) (v2 : Int32) (t0 : Int32) : Option (Int32 × Mm) :=
  fX7_step_45 n Sh a0 a1 M v2 t0 0
noncomputable def fX7_step (n : Nat) (Sh : Sp) (M : Mm) (a0 : Nat) (a1 : Int32) : Option (Int32 × Mm) :=
  qI M a0 5 0 fun M10 =>
  (fX7_keep n Sh M10 a0).bind fun r11 =>
  (fX7_layOrder n Sh r11 a0).bind fun r12 =>
  tI r12 a0 10 fun x13 =>
  if x13 = 0 then
    some ((-1), r12)
  else
    (fX7_focusNow n Sh r12 a0).bind fun r14 =>
    if a1 = 0 then
      fX7_step_41 n Sh a0 a1 r12 r14 0
    else
      tI r12 a0 10 fun x15 =>
      fX7_step_41 n Sh a0 a1 r12 r14 (x15 - 1)
set_option maxRecDepth 100000 in
set_option maxHeartbeats 4000000 in
theorem kX7_step {l : Launch} {G : Gt} {n : Nat} {Sh : Sp} {M : Mm} {a0 : Nat} {a1 : Int32} (hT : Sh a0 = some (.inl 7)) {r : (Int32 × Mm)} (h : fX7_step n Sh M a0 a1 = some r) : Ct l yX7_step cX7_step 5 (some .int) rmX7_step G Sh M [.ref a0, .int a1] (some (.int r.1)) r.2 := by
  refine Ct.of (by decide) (Nat.le_of_ble_eq_true rfl) ?_
  intro p e s m args below meth c ls C hK hX hP hS hb hlk hr hl
  replace hl : lv_has ls 5 [(0, .ref a0), (1, .int a1)] := hl
  have J98 : ∀ (M : Mm) (v3 : Int32) (H : Heap) (locs : List Loc) (ls : Array Slot), HM G Sh M H → SS G s s.heap.size H locs → lv_has ls 5 [(0, .ref a0), (1, .int a1), (3, .int v3)] → fX7_step_98 n Sh a0 a1 M v3 = some r → W p l e rmX7_step s m args below meth c H locs 0 0 (MQ below (QG G Sh r.2 (some (.int r.1))) args s rmX7_step.cells rmX7_step.slots (AA G)) (F0 m 98 ls []) := by
    intro M v3 H locs ls hP hS hl h
    unfold fX7_step_98 at h
    refine lv_aload_n C.1 C.2.1 dX7_step_98 rfl (lv_at hl 0 rfl) ?_
    refine lv_aload_n C.1 C.2.1 dX7_step_99 rfl (lv_at hl 0 rfl) ?_
    refine r_tF C hK hP hT cl_7 (k := 9) (by decide) wd_1153 rfl dX7_step_100 h (fun b1 h => ?_)
    refine lv_iload_n C.1 C.2.1 dX7_step_103 rfl (lv_at hl 2 rfl) ?_
    refine r_aI C hK hP dX7_step_104 h (fun x2 h => ?_)
    obtain ⟨r3, hc, h⟩ := bS h
    refine r_V0 C hK hX hb hP hS hl.1 (kX7_focuses (hT) hc) hT cl_7 wd_1414 mo_X7_focuses wd_1416 wd_60 ⟨Nat.le_of_ble_eq_true rfl, Nat.le_of_ble_eq_true rfl⟩ ⟨Nat.le_of_ble_eq_true rfl, Nat.le_of_ble_eq_true rfl⟩ rfl (rest := []) rfl (Nat.le_of_ble_eq_true rfl) dX7_step_105 (fun H locs hP hS => ?_)
    refine lv_aload_n C.1 C.2.1 dX7_step_108 rfl (lv_at hl 0 rfl) ?_
    obtain ⟨r4, hc, h⟩ := bS h
    refine r_V1 C hK hX hb hP hS hl.1 (kX7_focusNow (hT) hc) hT cl_7 wd_1406 mo_X7_focusNow wd_1408 wd_59 ⟨Nat.le_of_ble_eq_true rfl, Nat.le_of_ble_eq_true rfl⟩ ⟨Nat.le_of_ble_eq_true rfl, Nat.le_of_ble_eq_true rfl⟩ rfl (rest := []) rfl (Nat.le_of_ble_eq_true rfl) dX7_step_109 (fun H locs hP hS => ?_)
    have e := Option.some.inj h
    exact q_i C hlk hP hS hr (by rw [← e]) (by rw [← e]) dX7_step_112
  have J45 : ∀ (M : Mm) (v2 : Int32), ∀ (k : Nat) (v3 : Int32) (v4 : Int32) (H : Heap) (locs : List Loc) (ls : Array Slot), HM G Sh M H → SS G s s.heap.size H locs → lv_has ls 5 [(0, .ref a0), (1, .int a1), (2, .int v2), (3, .int v3), (4, .int v4)] → iter k (fun s => fX7_step_45b n Sh a0 a1 M v2 s.1 s.2) (v3, v4) = some r → W p l e rmX7_step s m args below meth c H locs 0 0 (MQ below (QG G Sh r.2 (some (.int r.1))) args s rmX7_step.cells rmX7_step.slots (AA G)) (F0 m 45 ls []) := by
    intro M v2 k
    induction k with
    | zero => intro v3 v4 H locs ls hP hS hl h; exact (iter_0 h).elim
    | succ k ih1 =>
      intro v3 v4 H locs ls hP hS hl h
      obtain ⟨z1, h, hz1⟩ := iter_some h
      replace h : fX7_step_45b n Sh a0 a1 M v2 v3 v4 = some z1 := h
      have J91 : ∀ (v4 : Int32) (t0 : Int32) (H : Heap) (locs : List Loc) (ls : Array Slot), HM G Sh M H → SS G s s.heap.size H locs → lv_has ls 5 [(0, .ref a0), (1, .int a1), (2, .int v2), (4, .int v4)] → fX7_step_91 n Sh a0 a1 M v2 v4 t0 = some z1 → W p l e rmX7_step s m args below meth c H locs 0 0 (MQ below (QG G Sh r.2 (some (.int r.1))) args s rmX7_step.cells rmX7_step.slots (AA G)) (F0 m 91 ls [.int t0]) := by
        intro v4 t0 H locs ls hP hS hl h
        unfold fX7_step_91 at h
        refine lv_istore_n (lv' := [(3, .int t0), (0, .ref a0), (1, .int a1), (2, .int v2), (4, .int v4)]) C.1 C.2.1 dX7_step_91 rfl hl (by decide) rfl (fun ls hl => ?_)
        refine lv_iinc (v := (v4 + 1)) (lv' := [(4, .int (v4 + 1)), (3, .int t0), (0, .ref a0), (1, .int a1), (2, .int v2)]) C.1 C.2.1 dX7_step_92 hl (k := 4) rfl rfl (by decide) rfl (fun ls hl => ?_)
        refine lv_goto (tgt := 45) C.1 C.2.1 dX7_step_95 (by decide) ?_
        have e := Option.some.inj h
        rw [← e] at hz1
        exact ih1 (t0) ((v4 + 1)) _ _ _ hP hS (lv_sub hl [2, 3, 4, 1, 0] rfl) (itK_inl hz1)
      have J81 : ∀ (v4 : Int32) (t0 : Int32) (t1 : Int32) (H : Heap) (locs : List Loc) (ls : Array Slot), HM G Sh M H → SS G s s.heap.size H locs → lv_has ls 5 [(0, .ref a0), (1, .int a1), (2, .int v2), (4, .int v4)] → fX7_step_81 n Sh a0 a1 M v2 v4 t0 t1 = some z1 → W p l e rmX7_step s m args below meth c H locs 0 0 (MQ below (QG G Sh r.2 (some (.int r.1))) args s rmX7_step.cells rmX7_step.slots (AA G)) (F0 m 81 ls [.int t1, .int t0]) := by
        intro v4 t0 t1 H locs ls hP hS hl h
        unfold fX7_step_81 at h
        refine lv_iadd C.1 C.2.1 dX7_step_81 ?_
        refine lv_aload_n C.1 C.2.1 dX7_step_82 rfl (lv_at hl 0 rfl) ?_
        refine r_tI C hK hP hT cl_7 (k := 10) (by decide) wd_1154 rfl dX7_step_83 h (fun x5 h => ?_)
        obtain ⟨hne, h⟩ := chk_some h
        refine lv_irem C.1 C.2.1 dX7_step_86 hne ?_
        refine lv_goto (tgt := 91) C.1 C.2.1 dX7_step_87 (by decide) ?_
        exact J91 (v4) (((t0 + t1) - (t0 + t1) / x5 * x5)) _ _ _ hP hS (lv_sub hl [0, 1, 2, 3] rfl) h
      unfold fX7_step_45b at h
      refine lv_iload C.1 C.2.1 dX7_step_45 (lv_at hl 4 rfl) ?_
      refine lv_aload_n C.1 C.2.1 dX7_step_47 rfl (lv_at hl 0 rfl) ?_
      refine r_tI C hK hP hT cl_7 (k := 10) (by decide) wd_1154 rfl dX7_step_48 h (fun x6 h => ?_)
      refine b_ige (tgt := 98) C dX7_step_51 (by decide) h (fun h => ?_) (fun h => ?_)
      · refine lv_aload_n C.1 C.2.1 dX7_step_54 rfl (lv_at hl 0 rfl) ?_
        refine r_tF C hK hP hT cl_7 (k := 9) (by decide) wd_1153 rfl dX7_step_55 h (fun b7 h => ?_)
        refine lv_iload C.1 C.2.1 dX7_step_58 (lv_at hl 4 rfl) ?_
        refine r_aI C hK hP dX7_step_60 h (fun x8 h => ?_)
        refine lv_iload_n C.1 C.2.1 dX7_step_61 rfl (lv_at hl 2 rfl) ?_
        refine b_ine (tgt := 90) C dX7_step_62 (by decide) h (fun h => ?_) (fun h => ?_)
        · refine lv_iload C.1 C.2.1 dX7_step_65 (lv_at hl 4 rfl) ?_
          refine lv_iload_n C.1 C.2.1 dX7_step_67 rfl (lv_at hl 1 rfl) ?_
          refine b_eq (tgt := 80) C dX7_step_68 (by decide) h (fun h => ?_) (fun h => ?_)
          · refine lv_iconst (v := 1) C.1 C.2.1 dX7_step_80 (by decide) ?_
            exact J81 (v4) (v4) (1) _ _ _ hP hS (lv_sub hl [0, 1, 2, 4] rfl) h
          · refine lv_aload_n C.1 C.2.1 dX7_step_71 rfl (lv_at hl 0 rfl) ?_
            refine r_tI C hK hP hT cl_7 (k := 10) (by decide) wd_1154 rfl dX7_step_72 h (fun x9 h => ?_)
            refine lv_iconst (v := 1) C.1 C.2.1 dX7_step_75 (by decide) ?_
            refine lv_isub C.1 C.2.1 dX7_step_76 ?_
            refine lv_goto (tgt := 81) C.1 C.2.1 dX7_step_77 (by decide) ?_
            exact J81 (v4) (v4) ((x9 - 1)) _ _ _ hP hS (lv_sub hl [0, 1, 2, 4] rfl) h
        · refine lv_iload_n C.1 C.2.1 dX7_step_90 rfl (lv_at hl 3 rfl) ?_
          exact J91 (v4) (v3) _ _ _ hP hS (lv_sub hl [0, 1, 2, 4] rfl) h
      · obtain ⟨w1, h, e⟩ := mS h
        rw [← e] at hz1
        replace e := itK_inr hz1
        rw [e] at h
        exact J98 (M) (v3) _ _ _ hP hS (lv_sub hl [0, 1, 3] rfl) h
  have J41 : ∀ (M : Mm) (v2 : Int32) (t0 : Int32) (H : Heap) (locs : List Loc) (ls : Array Slot), HM G Sh M H → SS G s s.heap.size H locs → lv_has ls 5 [(0, .ref a0), (1, .int a1), (2, .int v2)] → fX7_step_41 n Sh a0 a1 M v2 t0 = some r → W p l e rmX7_step s m args below meth c H locs 0 0 (MQ below (QG G Sh r.2 (some (.int r.1))) args s rmX7_step.cells rmX7_step.slots (AA G)) (F0 m 41 ls [.int t0]) := by
    intro M v2 t0 H locs ls hP hS hl h
    unfold fX7_step_41 at h
    refine lv_istore_n (lv' := [(3, .int t0), (0, .ref a0), (1, .int a1), (2, .int v2)]) C.1 C.2.1 dX7_step_41 rfl hl (by decide) rfl (fun ls hl => ?_)
    refine lv_iconst (v := 0) C.1 C.2.1 dX7_step_42 (by decide) ?_
    refine lv_istore (lv' := [(4, .int 0), (3, .int t0), (0, .ref a0), (1, .int a1), (2, .int v2)]) C.1 C.2.1 dX7_step_43 hl (by decide) rfl (fun ls hl => ?_)
    exact J45 (M) (v2) n (t0) (0) _ _ _ hP hS (lv_sub hl [2, 3, 4, 1, 0] rfl) h
  unfold fX7_step at h
  refine lv_aload_n C.1 C.2.1 dX7_step_0 rfl (lv_at hl 0 rfl) ?_
  refine lv_iconst (v := 0) C.1 C.2.1 dX7_step_1 (by decide) ?_
  refine r_qI C hK hP hS hT cl_7 (k := 5) (by decide) wd_1149 rfl rfl (tyX7_ok 5 (by decide)) dX7_step_2 h (fun M10 H locs h hP hS => ?_)
  refine lv_aload_n C.1 C.2.1 dX7_step_5 rfl (lv_at hl 0 rfl) ?_
  obtain ⟨r11, hc, h⟩ := bS h
  refine r_V0 C hK hX hb hP hS hl.1 (kX7_keep (hT) hc) hT cl_7 wd_1209 mo_X7_keep wd_1211 wd_27 ⟨Nat.le_of_ble_eq_true rfl, Nat.le_of_ble_eq_true rfl⟩ ⟨Nat.le_of_ble_eq_true rfl, Nat.le_of_ble_eq_true rfl⟩ rfl (rest := []) rfl (Nat.le_of_ble_eq_true rfl) dX7_step_6 (fun H locs hP hS => ?_)
  refine lv_aload_n C.1 C.2.1 dX7_step_9 rfl (lv_at hl 0 rfl) ?_
  obtain ⟨r12, hc, h⟩ := bS h
  refine r_V0 C hK hX hb hP hS hl.1 (kX7_layOrder (hT) hc) hT cl_7 wd_1398 mo_X7_layOrder wd_1400 wd_58 ⟨Nat.le_of_ble_eq_true rfl, Nat.le_of_ble_eq_true rfl⟩ ⟨Nat.le_of_ble_eq_true rfl, Nat.le_of_ble_eq_true rfl⟩ rfl (rest := []) rfl (Nat.le_of_ble_eq_true rfl) dX7_step_10 (fun H locs hP hS => ?_)
  refine lv_aload_n C.1 C.2.1 dX7_step_13 rfl (lv_at hl 0 rfl) ?_
  refine r_tI C hK hP hT cl_7 (k := 10) (by decide) wd_1154 rfl dX7_step_14 h (fun x13 h => ?_)
  refine b_ne (tgt := 22) C dX7_step_17 (by decide) h (fun h => ?_) (fun h => ?_)
  · refine lv_iconst (v := (-1)) C.1 C.2.1 dX7_step_20 (by decide) ?_
    have e := Option.some.inj h
    exact q_i C hlk hP hS hr (by rw [← e]) (by rw [← e]) dX7_step_21
  · refine lv_aload_n C.1 C.2.1 dX7_step_22 rfl (lv_at hl 0 rfl) ?_
    obtain ⟨r14, hc, h⟩ := bS h
    refine r_V1 C hK hX hb hP hS hl.1 (kX7_focusNow (hT) hc) hT cl_7 wd_1406 mo_X7_focusNow wd_1408 wd_59 ⟨Nat.le_of_ble_eq_true rfl, Nat.le_of_ble_eq_true rfl⟩ ⟨Nat.le_of_ble_eq_true rfl, Nat.le_of_ble_eq_true rfl⟩ rfl (rest := []) rfl (Nat.le_of_ble_eq_true rfl) dX7_step_23 (fun H locs hP hS => ?_)
    refine lv_istore_n (lv' := [(2, .int r14), (0, .ref a0), (1, .int a1)]) C.1 C.2.1 dX7_step_26 rfl hl (by decide) rfl (fun ls hl => ?_)
    refine lv_iload_n C.1 C.2.1 dX7_step_27 rfl (lv_at hl 2 rfl) ?_
    refine b_eq (tgt := 40) C dX7_step_28 (by decide) h (fun h => ?_) (fun h => ?_)
    · refine lv_iconst (v := 0) C.1 C.2.1 dX7_step_40 (by decide) ?_
      exact J41 (r12) (r14) (0) _ _ _ hP hS (lv_sub hl [1, 2, 0] rfl) h
    · refine lv_aload_n C.1 C.2.1 dX7_step_31 rfl (lv_at hl 1 rfl) ?_
      refine r_tI C hK hP hT cl_7 (k := 10) (by decide) wd_1154 rfl dX7_step_32 h (fun x15 h => ?_)
      refine lv_iconst (v := 1) C.1 C.2.1 dX7_step_35 (by decide) ?_
      refine lv_isub C.1 C.2.1 dX7_step_36 ?_
      refine lv_goto (tgt := 41) C.1 C.2.1 dX7_step_37 (by decide) ?_
      exact J41 (r12) (r14) ((x15 - 1)) _ _ _ hP hS (lv_sub hl [1, 2, 0] rfl) h
theorem dX7_open_0 : decode cX7_open 0 = .ok (.aload_n 0, 1) := by decide +kernel
theorem dX7_open_1 : decode cX7_open 1 = .ok (.aload_n 0, 1) := by decide +kernel
theorem dX7_open_2 : decode cX7_open 2 = .ok (.iload_n 1, 1) := by decide +kernel
theorem dX7_open_3 : decode cX7_open 3 = .ok (.invokevirtual 123, 3) := by decide +kernel
theorem dX7_open_6 : decode cX7_open 6 = .ok (.ifCond .ne 7, 3) := by decide +kernel
theorem dX7_open_9 : decode cX7_open 9 = .ok (.iconst 1, 1) := by decide +kernel
theorem dX7_open_10 : decode cX7_open 10 = .ok (.goto 33, 3) := by decide +kernel
theorem dX7_open_13 : decode cX7_open 13 = .ok (.aload_n 0, 1) := by decide +kernel
theorem dX7_open_14 : decode cX7_open 14 = .ok (.iload_n 1, 1) := by decide +kernel
theorem dX7_open_15 : decode cX7_open 15 = .ok (.iconst 3, 1) := by decide +kernel
theorem dX7_open_16 : decode cX7_open 16 = .ok (.invokevirtual 40, 3) := by decide +kernel
theorem dX7_open_19 : decode cX7_open 19 = .ok (.bipush 6, 2) := by decide +kernel
theorem dX7_open_21 : decode cX7_open 21 = .ok (.if_icmp .eq 7, 3) := by decide +kernel
theorem dX7_open_24 : decode cX7_open 24 = .ok (.iconst 2, 1) := by decide +kernel
theorem dX7_open_25 : decode cX7_open 25 = .ok (.goto 18, 3) := by decide +kernel
theorem dX7_open_28 : decode cX7_open 28 = .ok (.aload_n 0, 1) := by decide +kernel
theorem dX7_open_29 : decode cX7_open 29 = .ok (.iload_n 1, 1) := by decide +kernel
theorem dX7_open_30 : decode cX7_open 30 = .ok (.bipush 10, 2) := by decide +kernel
theorem dX7_open_32 : decode cX7_open 32 = .ok (.invokevirtual 40, 3) := by decide +kernel
theorem dX7_open_35 : decode cX7_open 35 = .ok (.ifCond .le 7, 3) := by decide +kernel
theorem dX7_open_38 : decode cX7_open 38 = .ok (.iconst 3, 1) := by decide +kernel
theorem dX7_open_39 : decode cX7_open 39 = .ok (.goto 4, 3) := by decide +kernel
theorem dX7_open_42 : decode cX7_open 42 = .ok (.iconst 0, 1) := by decide +kernel
theorem dX7_open_43 : decode cX7_open 43 = .ok (.putfield 29, 3) := by decide +kernel
theorem dX7_open_46 : decode cX7_open 46 = .ok (.aload_n 0, 1) := by decide +kernel
theorem dX7_open_47 : decode cX7_open 47 = .ok (.getfield 29, 3) := by decide +kernel
theorem dX7_open_50 : decode cX7_open 50 = .ok (.ifCond .eq 5, 3) := by decide +kernel
theorem dX7_open_53 : decode cX7_open 53 = .ok (.iconst 0, 1) := by decide +kernel
theorem dX7_open_54 : decode cX7_open 54 = .ok (.ireturn, 1) := by decide +kernel
theorem dX7_open_55 : decode cX7_open 55 = .ok (.aload_n 0, 1) := by decide +kernel
theorem dX7_open_56 : decode cX7_open 56 = .ok (.invokevirtual 133, 3) := by decide +kernel
theorem dX7_open_59 : decode cX7_open 59 = .ok (.aload_n 0, 1) := by decide +kernel
theorem dX7_open_60 : decode cX7_open 60 = .ok (.iload_n 1, 1) := by decide +kernel
theorem dX7_open_61 : decode cX7_open 61 = .ok (.bipush 11, 2) := by decide +kernel
theorem dX7_open_63 : decode cX7_open 63 = .ok (.aload_n 0, 1) := by decide +kernel
theorem dX7_open_64 : decode cX7_open 64 = .ok (.invokevirtual 176, 3) := by decide +kernel
theorem dX7_open_67 : decode cX7_open 67 = .ok (.invokevirtual 54, 3) := by decide +kernel
theorem dX7_open_70 : decode cX7_open 70 = .ok (.aload_n 0, 1) := by decide +kernel
theorem dX7_open_71 : decode cX7_open 71 = .ok (.getfield 7, 3) := by decide +kernel
theorem dX7_open_74 : decode cX7_open 74 = .ok (.sipush 3404, 3) := by decide +kernel
theorem dX7_open_77 : decode cX7_open 77 = .ok (.dup2, 1) := by decide +kernel
theorem dX7_open_78 : decode cX7_open 78 = .ok (.iaload, 1) := by decide +kernel
theorem dX7_open_79 : decode cX7_open 79 = .ok (.iconst 1, 1) := by decide +kernel
theorem dX7_open_80 : decode cX7_open 80 = .ok (.iadd, 1) := by decide +kernel
theorem dX7_open_81 : decode cX7_open 81 = .ok (.iastore, 1) := by decide +kernel
theorem dX7_open_82 : decode cX7_open 82 = .ok (.aload_n 0, 1) := by decide +kernel
theorem dX7_open_83 : decode cX7_open 83 = .ok (.iload_n 1, 1) := by decide +kernel
theorem dX7_open_84 : decode cX7_open 84 = .ok (.bipush 10, 2) := by decide +kernel
theorem dX7_open_86 : decode cX7_open 86 = .ok (.aload_n 0, 1) := by decide +kernel
theorem dX7_open_87 : decode cX7_open 87 = .ok (.getfield 7, 3) := by decide +kernel
theorem dX7_open_90 : decode cX7_open 90 = .ok (.sipush 3404, 3) := by decide +kernel
theorem dX7_open_93 : decode cX7_open 93 = .ok (.iaload, 1) := by decide +kernel
theorem dX7_open_94 : decode cX7_open 94 = .ok (.invokevirtual 54, 3) := by decide +kernel
theorem dX7_open_97 : decode cX7_open 97 = .ok (.aload_n 0, 1) := by decide +kernel
theorem dX7_open_98 : decode cX7_open 98 = .ok (.invokevirtual 173, 3) := by decide +kernel
theorem dX7_open_101 : decode cX7_open 101 = .ok (.aload_n 0, 1) := by decide +kernel
theorem dX7_open_102 : decode cX7_open 102 = .ok (.getfield 167, 3) := by decide +kernel
theorem dX7_open_105 : decode cX7_open 105 = .ok (.ifCond .le 30, 3) := by decide +kernel
theorem dX7_open_108 : decode cX7_open 108 = .ok (.aload_n 0, 1) := by decide +kernel
theorem dX7_open_109 : decode cX7_open 109 = .ok (.aload_n 0, 1) := by decide +kernel
theorem dX7_open_110 : decode cX7_open 110 = .ok (.getfield 26, 3) := by decide +kernel
theorem dX7_open_113 : decode cX7_open 113 = .ok (.iconst 0, 1) := by decide +kernel
theorem dX7_open_114 : decode cX7_open 114 = .ok (.iaload, 1) := by decide +kernel
theorem dX7_open_115 : decode cX7_open 115 = .ok (.iload_n 1, 1) := by decide +kernel
theorem dX7_open_116 : decode cX7_open 116 = .ok (.invokevirtual 139, 3) := by decide +kernel
theorem dX7_open_119 : decode cX7_open 119 = .ok (.ifCond .eq 16, 3) := by decide +kernel
theorem dX7_open_122 : decode cX7_open 122 = .ok (.aload_n 0, 1) := by decide +kernel
theorem dX7_open_123 : decode cX7_open 123 = .ok (.aload_n 0, 1) := by decide +kernel
theorem dX7_open_124 : decode cX7_open 124 = .ok (.getfield 26, 3) := by decide +kernel
theorem dX7_open_127 : decode cX7_open 127 = .ok (.iconst 0, 1) := by decide +kernel
theorem dX7_open_128 : decode cX7_open 128 = .ok (.iaload, 1) := by decide +kernel
theorem dX7_open_129 : decode cX7_open 129 = .ok (.invokevirtual 182, 3) := by decide +kernel
theorem dX7_open_132 : decode cX7_open 132 = .ok (.goto 12, 3) := by decide +kernel
theorem dX7_open_135 : decode cX7_open 135 = .ok (.aload_n 0, 1) := by decide +kernel
theorem dX7_open_136 : decode cX7_open 136 = .ok (.getfield 7, 3) := by decide +kernel
theorem dX7_open_139 : decode cX7_open 139 = .ok (.sipush 3402, 3) := by decide +kernel
theorem dX7_open_142 : decode cX7_open 142 = .ok (.iconst (-1), 1) := by decide +kernel
theorem dX7_open_143 : decode cX7_open 143 = .ok (.iastore, 1) := by decide +kernel
theorem dX7_open_144 : decode cX7_open 144 = .ok (.aload_n 0, 1) := by decide +kernel
theorem dX7_open_145 : decode cX7_open 145 = .ok (.invokevirtual 176, 3) := by decide +kernel
theorem dX7_open_148 : decode cX7_open 148 = .ok (.ireturn, 1) := by decide +kernel
abbrev rmX7_open : Room := { frames := 11, cells := 0, slots := 0, locals := 263 }
noncomputable def fX7_open_144 (n : Nat) (Sh : Sp) (a0 : Nat) (a1 : Int32) (M : Mm) : Option (Int32 × Mm) :=
  (fX7_focusNow n Sh M a0).bind fun r1 =>
  some (r1, M)
noncomputable def fX7_open_135 (n : Nat) (Sh : Sp) (a0 : Nat) (a1 : Int32) (M : Mm) : Option (Int32 × Mm) :=
  tF M a0 0 fun b2 =>
  sI Sh M b2 3402 (-1) fun M3 =>
  fX7_open_144 n Sh a0 a1 M3
noncomputable def fX7_open_43 (n : Nat) (Sh : Sp) (a0 : Nat) (a1 : Int32) (M : Mm) (t0 : Nat) (t1 : Int32) : Option (Int32 × Mm) :=
  pI Sh M t0 7 5 t1 fun M4 =>
  tI M4 a0 5 fun x5 =>
  if x5 = 0 then
    (fX7_keep n Sh M4 a0).bind fun r6 =>
    (fX7_focusNow n Sh r6 a0).bind fun r7 =>
    (fX7_put n Sh r6 a0 a1 11 r7).bind fun r8 =>
    tF r8 a0 0 fun b9 =>
    aI Sh r8 b9 0 3404 fun x10 =>
    sI Sh r8 b9 3404 (x10 + 1) fun M11 =>
    tF M11 a0 0 fun b12 =>
    aI Sh M11 b12 0 3404 fun x13 =>
    (fX7_put n Sh M11 a0 a1 10 x13).bind fun r14 =>
    (fX7_layOrder n Sh r14 a0).bind fun r15 =>
    tI r15 a0 10 fun x16 =>
    if x16 ≤ 0 then
      fX7_open_135 n Sh a0 a1 r15
    else
      tF r15 a0 9 fun b17 =>
      aI Sh r15 b17 0 0 fun x18 =>
      (fX7_isBelow n Sh r15 a0 x18 a1).bind fun r19 =>
      if r19 = 0 then
        fX7_open_135 n Sh a0 a1 r15
      else
        tF r15 a0 9 fun b20 =>
        aI Sh r15 b20 0 0 fun x21 =>
        (fX7_focuses n Sh r15 a0 x21).bind fun r22 =>
        fX7_open_144 n Sh a0 a1 r22
  else
    some (0, M4)
noncomputable def fX7_open (n : Nat) (Sh : Sp) (M : Mm) (a0 : Nat) (a1 : Int32) : Option (Int32 × Mm) :=
  (fX7_isNode n Sh M a0 a1).bind fun r23 =>
  if r23 = 0 then
    fX7_open_43 n Sh a0 a1 M a0 1
  else
    (fX7_of n Sh M a0 a1 3).bind fun r24 =>
    if r24 = 6 then
      (fX7_of n Sh M a0 a1 10).bind fun r25 =>
      if r25 ≤ 0 then
        fX7_open_43 n Sh a0 a1 M a0 0
      else
        fX7_open_43 n Sh a0 a1 M a0 3
    else
      fX7_open_43 n Sh a0 a1 M a0 2
set_option maxRecDepth 100000 in
set_option maxHeartbeats 4000000 in
theorem kX7_open {l : Launch} {G : Gt} {n : Nat} {Sh : Sp} {M : Mm} {a0 : Nat} {a1 : Int32} (hT : Sh a0 = some (.inl 7)) {r : (Int32 × Mm)} (h : fX7_open n Sh M a0 a1 = some r) : Ct l yX7_open cX7_open 2 (some .int) rmX7_open G Sh M [.ref a0, .int a1] (some (.int r.1)) r.2 := by
  refine Ct.of (by decide) (Nat.le_of_ble_eq_true rfl) ?_
  intro p e s m args below meth c ls C hK hX hP hS hb hlk hr hl
  replace hl : lv_has ls 2 [(0, .ref a0), (1, .int a1)] := hl
  have J144 : ∀ (M : Mm) (H : Heap) (locs : List Loc) (ls : Array Slot), HM G Sh M H → SS G s s.heap.size H locs → lv_has ls 2 [(0, .ref a0), (1, .int a1)] → fX7_open_144 n Sh a0 a1 M = some r → W p l e rmX7_open s m args below meth c H locs 0 0 (MQ below (QG G Sh r.2 (some (.int r.1))) args s rmX7_open.cells rmX7_open.slots (AA G)) (F0 m 144 ls []) := by
    intro M H locs ls hP hS hl h
    unfold fX7_open_144 at h
    refine lv_aload_n C.1 C.2.1 dX7_open_144 rfl (lv_at hl 0 rfl) ?_
    obtain ⟨r1, hc, h⟩ := bS h
    refine r_V1 C hK hX hb hP hS hl.1 (kX7_focusNow (hT) hc) hT cl_7 wd_1406 mo_X7_focusNow wd_1408 wd_59 ⟨Nat.le_of_ble_eq_true rfl, Nat.le_of_ble_eq_true rfl⟩ ⟨Nat.le_of_ble_eq_true rfl, Nat.le_of_ble_eq_true rfl⟩ rfl (rest := []) rfl (Nat.le_of_ble_eq_true rfl) dX7_open_145 (fun H locs hP hS => ?_)
    have e := Option.some.inj h
    exact q_i C hlk hP hS hr (by rw [← e]) (by rw [← e]) dX7_open_148
  have J135 : ∀ (M : Mm) (H : Heap) (locs : List Loc) (ls : Array Slot), HM G Sh M H → SS G s s.heap.size H locs → lv_has ls 2 [(0, .ref a0), (1, .int a1)] → fX7_open_135 n Sh a0 a1 M = some r → W p l e rmX7_open s m args below meth c H locs 0 0 (MQ below (QG G Sh r.2 (some (.int r.1))) args s rmX7_open.cells rmX7_open.slots (AA G)) (F0 m 135 ls []) := by
    intro M H locs ls hP hS hl h
    unfold fX7_open_135 at h
    refine lv_aload_n C.1 C.2.1 dX7_open_135 rfl (lv_at hl 0 rfl) ?_
    refine r_tF C hK hP hT cl_7 (k := 0) (by decide) wd_1144 rfl dX7_open_136 h (fun b2 h => ?_)
    refine lv_sipush (v := 3402) C.1 C.2.1 dX7_open_139 (by decide) ?_
    refine lv_iconst (v := (-1)) C.1 C.2.1 dX7_open_142 (by decide) ?_
    refine r_sI C hK hP hS dX7_open_143 h (fun M3 H locs h hP hS => ?_)
    exact J144 (M3) _ _ _ hP hS (lv_sub hl [0, 1] rfl) h
  have J43 : ∀ (M : Mm) (t0 : Nat) (t1 : Int32) (H : Heap) (locs : List Loc) (ls : Array Slot), HM G Sh M H → SS G s s.heap.size H locs → lv_has ls 2 [(0, .ref a0), (1, .int a1)] → fX7_open_43 n Sh a0 a1 M t0 t1 = some r → W p l e rmX7_open s m args below meth c H locs 0 0 (MQ below (QG G Sh r.2 (some (.int r.1))) args s rmX7_open.cells rmX7_open.slots (AA G)) (F0 m 43 ls [.int t1, .ref t0]) := by
    intro M t0 t1 H locs ls hP hS hl h
    unfold fX7_open_43 at h
    refine r_pI C hK hP hS cl_7 (k := 5) (by decide) wd_1149 rfl rfl (tyX7_ok 5 (by decide)) dX7_open_43 h (fun M4 H locs h hP hS => ?_)
    refine lv_aload_n C.1 C.2.1 dX7_open_46 rfl (lv_at hl 0 rfl) ?_
    refine r_tI C hK hP hT cl_7 (k := 5) (by decide) wd_1149 rfl dX7_open_47 h (fun x5 h => ?_)
    refine b_eq (tgt := 55) C dX7_open_50 (by decide) h (fun h => ?_) (fun h => ?_)
    · refine lv_aload_n C.1 C.2.1 dX7_open_55 rfl (lv_at hl 0 rfl) ?_
      obtain ⟨r6, hc, h⟩ := bS h
      refine r_V0 C hK hX hb hP hS hl.1 (kX7_keep (hT) hc) hT cl_7 wd_1209 mo_X7_keep wd_1211 wd_27 ⟨Nat.le_of_ble_eq_true rfl, Nat.le_of_ble_eq_true rfl⟩ ⟨Nat.le_of_ble_eq_true rfl, Nat.le_of_ble_eq_true rfl⟩ rfl (rest := []) rfl (Nat.le_of_ble_eq_true rfl) dX7_open_56 (fun H locs hP hS => ?_)
      refine lv_aload_n C.1 C.2.1 dX7_open_59 rfl (lv_at hl 0 rfl) ?_
      refine lv_iload_n C.1 C.2.1 dX7_open_60 rfl (lv_at hl 1 rfl) ?_
      refine lv_bipush (v := 11) C.1 C.2.1 dX7_open_61 (by decide) ?_
      refine lv_aload_n C.1 C.2.1 dX7_open_63 rfl (lv_at hl 0 rfl) ?_
      obtain ⟨r7, hc, h⟩ := bS h
      refine r_V1 C hK hX hb hP hS hl.1 (kX7_focusNow (hT) hc) hT cl_7 wd_1406 mo_X7_focusNow wd_1408 wd_59 ⟨Nat.le_of_ble_eq_true rfl, Nat.le_of_ble_eq_true rfl⟩ ⟨Nat.le_of_ble_eq_true rfl, Nat.le_of_ble_eq_true rfl⟩ rfl (rest := [.int 11, .int a1, .ref a0]) rfl (Nat.le_of_ble_eq_true rfl) dX7_open_64 (fun H locs hP hS => ?_)
      obtain ⟨r8, hc, h⟩ := bS h
      refine r_V0 C hK hX hb hP hS hl.1 (kX7_put (hT) hc) hT cl_7 wd_1213 mo_X7_put wd_1215 wd_28 ⟨Nat.le_of_ble_eq_true rfl, Nat.le_of_ble_eq_true rfl⟩ ⟨Nat.le_of_ble_eq_true rfl, Nat.le_of_ble_eq_true rfl⟩ rfl (rest := []) rfl (Nat.le_of_ble_eq_true rfl) dX7_open_67 (fun H locs hP hS => ?_)
      refine lv_aload_n C.1 C.2.1 dX7_open_70 rfl (lv_at hl 0 rfl) ?_
      refine r_tF C hK hP hT cl_7 (k := 0) (by decide) wd_1144 rfl dX7_open_71 h (fun b9 h => ?_)
      refine lv_sipush (v := 3404) C.1 C.2.1 dX7_open_74 (by decide) ?_
      refine lv_dup2_11 C.1 C.2.1 dX7_open_77 rfl rfl ?_
      refine r_aI C hK hP dX7_open_78 h (fun x10 h => ?_)
      refine lv_iconst (v := 1) C.1 C.2.1 dX7_open_79 (by decide) ?_
      refine lv_iadd C.1 C.2.1 dX7_open_80 ?_
      refine r_sI C hK hP hS dX7_open_81 h (fun M11 H locs h hP hS => ?_)
      refine lv_aload_n C.1 C.2.1 dX7_open_82 rfl (lv_at hl 0 rfl) ?_
      refine lv_iload_n C.1 C.2.1 dX7_open_83 rfl (lv_at hl 1 rfl) ?_
      refine lv_bipush (v := 10) C.1 C.2.1 dX7_open_84 (by decide) ?_
      refine lv_aload_n C.1 C.2.1 dX7_open_86 rfl (lv_at hl 0 rfl) ?_
      refine r_tF C hK hP hT cl_7 (k := 0) (by decide) wd_1144 rfl dX7_open_87 h (fun b12 h => ?_)
      refine lv_sipush (v := 3404) C.1 C.2.1 dX7_open_90 (by decide) ?_
      refine r_aI C hK hP dX7_open_93 h (fun x13 h => ?_)
      obtain ⟨r14, hc, h⟩ := bS h
      refine r_V0 C hK hX hb hP hS hl.1 (kX7_put (hT) hc) hT cl_7 wd_1213 mo_X7_put wd_1215 wd_28 ⟨Nat.le_of_ble_eq_true rfl, Nat.le_of_ble_eq_true rfl⟩ ⟨Nat.le_of_ble_eq_true rfl, Nat.le_of_ble_eq_true rfl⟩ rfl (rest := []) rfl (Nat.le_of_ble_eq_true rfl) dX7_open_94 (fun H locs hP hS => ?_)
      refine lv_aload_n C.1 C.2.1 dX7_open_97 rfl (lv_at hl 0 rfl) ?_
      obtain ⟨r15, hc, h⟩ := bS h
      refine r_V0 C hK hX hb hP hS hl.1 (kX7_layOrder (hT) hc) hT cl_7 wd_1398 mo_X7_layOrder wd_1400 wd_58 ⟨Nat.le_of_ble_eq_true rfl, Nat.le_of_ble_eq_true rfl⟩ ⟨Nat.le_of_ble_eq_true rfl, Nat.le_of_ble_eq_true rfl⟩ rfl (rest := []) rfl (Nat.le_of_ble_eq_true rfl) dX7_open_98 (fun H locs hP hS => ?_)
      refine lv_aload_n C.1 C.2.1 dX7_open_101 rfl (lv_at hl 0 rfl) ?_
      refine r_tI C hK hP hT cl_7 (k := 10) (by decide) wd_1154 rfl dX7_open_102 h (fun x16 h => ?_)
      refine b_le (tgt := 135) C dX7_open_105 (by decide) h (fun h => ?_) (fun h => ?_)
      · exact J135 (r15) _ _ _ hP hS (lv_sub hl [0, 1] rfl) h
      · refine lv_aload_n C.1 C.2.1 dX7_open_108 rfl (lv_at hl 0 rfl) ?_
        refine lv_aload_n C.1 C.2.1 dX7_open_109 rfl (lv_at hl 0 rfl) ?_
        refine r_tF C hK hP hT cl_7 (k := 9) (by decide) wd_1153 rfl dX7_open_110 h (fun b17 h => ?_)
        refine lv_iconst (v := 0) C.1 C.2.1 dX7_open_113 (by decide) ?_
        refine r_aI C hK hP dX7_open_114 h (fun x18 h => ?_)
        refine lv_iload_n C.1 C.2.1 dX7_open_115 rfl (lv_at hl 1 rfl) ?_
        obtain ⟨r19, hc, h⟩ := bS h
        refine r_V1 C hK hX hb hP hS hl.1 (kX7_isBelow (hT) hc) hT cl_7 wd_1225 mo_X7_isBelow wd_1227 wd_30 ⟨Nat.le_of_ble_eq_true rfl, Nat.le_of_ble_eq_true rfl⟩ ⟨Nat.le_of_ble_eq_true rfl, Nat.le_of_ble_eq_true rfl⟩ rfl (rest := []) rfl (Nat.le_of_ble_eq_true rfl) dX7_open_116 (fun H locs hP hS => ?_)
        refine b_eq (tgt := 135) C dX7_open_119 (by decide) h (fun h => ?_) (fun h => ?_)
        · exact J135 (r15) _ _ _ hP hS (lv_sub hl [0, 1] rfl) h
        · refine lv_aload_n C.1 C.2.1 dX7_open_122 rfl (lv_at hl 0 rfl) ?_
          refine lv_aload_n C.1 C.2.1 dX7_open_123 rfl (lv_at hl 0 rfl) ?_
          refine r_tF C hK hP hT cl_7 (k := 9) (by decide) wd_1153 rfl dX7_open_124 h (fun b20 h => ?_)
          refine lv_iconst (v := 0) C.1 C.2.1 dX7_open_127 (by decide) ?_
          refine r_aI C hK hP dX7_open_128 h (fun x21 h => ?_)
          obtain ⟨r22, hc, h⟩ := bS h
          refine r_V0 C hK hX hb hP hS hl.1 (kX7_focuses (hT) hc) hT cl_7 wd_1414 mo_X7_focuses wd_1416 wd_60 ⟨Nat.le_of_ble_eq_true rfl, Nat.le_of_ble_eq_true rfl⟩ ⟨Nat.le_of_ble_eq_true rfl, Nat.le_of_ble_eq_true rfl⟩ rfl (rest := []) rfl (Nat.le_of_ble_eq_true rfl) dX7_open_129 (fun H locs hP hS => ?_)
          refine lv_goto (tgt := 144) C.1 C.2.1 dX7_open_132 (by decide) ?_
          exact J144 (r22) _ _ _ hP hS (lv_sub hl [0, 1] rfl) h
    · refine lv_iconst (v := 0) C.1 C.2.1 dX7_open_53 (by decide) ?_
      have e := Option.some.inj h
      exact q_i C hlk hP hS hr (by rw [← e]) (by rw [← e]) dX7_open_54
  unfold fX7_open at h
  refine lv_aload_n C.1 C.2.1 dX7_open_0 rfl (lv_at hl 0 rfl) ?_
  refine lv_aload_n C.1 C.2.1 dX7_open_1 rfl (lv_at hl 0 rfl) ?_
  refine lv_iload_n C.1 C.2.1 dX7_open_2 rfl (lv_at hl 1 rfl) ?_
  obtain ⟨r23, hc, h⟩ := bS h
  refine r_V1 C hK hX hb hP hS hl.1 (kX7_isNode (hT) hc) hT cl_7 wd_1190 mo_X7_isNode wd_1192 wd_23 ⟨Nat.le_of_ble_eq_true rfl, Nat.le_of_ble_eq_true rfl⟩ ⟨Nat.le_of_ble_eq_true rfl, Nat.le_of_ble_eq_true rfl⟩ rfl (rest := [.ref a0]) rfl (Nat.le_of_ble_eq_true rfl) dX7_open_3 (fun H locs hP hS => ?_)
  refine b_ne (tgt := 13) C dX7_open_6 (by decide) h (fun h => ?_) (fun h => ?_)
  · refine lv_iconst (v := 1) C.1 C.2.1 dX7_open_9 (by decide) ?_
    refine lv_goto (tgt := 43) C.1 C.2.1 dX7_open_10 (by decide) ?_
    exact J43 (M) (a0) (1) _ _ _ hP hS (lv_sub hl [0, 1] rfl) h
  · refine lv_aload_n C.1 C.2.1 dX7_open_13 rfl (lv_at hl 0 rfl) ?_
    refine lv_iload_n C.1 C.2.1 dX7_open_14 rfl (lv_at hl 1 rfl) ?_
    refine lv_iconst (v := 3) C.1 C.2.1 dX7_open_15 (by decide) ?_
    obtain ⟨r24, hc, h⟩ := bS h
    refine r_V1 C hK hX hb hP hS hl.1 (kX7_of (hT) hc) hT cl_7 wd_1197 mo_X7_of wd_1199 wd_24 ⟨Nat.le_of_ble_eq_true rfl, Nat.le_of_ble_eq_true rfl⟩ ⟨Nat.le_of_ble_eq_true rfl, Nat.le_of_ble_eq_true rfl⟩ rfl (rest := [.ref a0]) rfl (Nat.le_of_ble_eq_true rfl) dX7_open_16 (fun H locs hP hS => ?_)
    refine lv_bipush (v := 6) C.1 C.2.1 dX7_open_19 (by decide) ?_
    refine b_ieq (tgt := 28) C dX7_open_21 (by decide) h (fun h => ?_) (fun h => ?_)
    · refine lv_aload_n C.1 C.2.1 dX7_open_28 rfl (lv_at hl 0 rfl) ?_
      refine lv_iload_n C.1 C.2.1 dX7_open_29 rfl (lv_at hl 1 rfl) ?_
      refine lv_bipush (v := 10) C.1 C.2.1 dX7_open_30 (by decide) ?_
      obtain ⟨r25, hc, h⟩ := bS h
      refine r_V1 C hK hX hb hP hS hl.1 (kX7_of (hT) hc) hT cl_7 wd_1197 mo_X7_of wd_1199 wd_24 ⟨Nat.le_of_ble_eq_true rfl, Nat.le_of_ble_eq_true rfl⟩ ⟨Nat.le_of_ble_eq_true rfl, Nat.le_of_ble_eq_true rfl⟩ rfl (rest := [.ref a0]) rfl (Nat.le_of_ble_eq_true rfl) dX7_open_32 (fun H locs hP hS => ?_)
      refine b_le (tgt := 42) C dX7_open_35 (by decide) h (fun h => ?_) (fun h => ?_)
      · refine lv_iconst (v := 0) C.1 C.2.1 dX7_open_42 (by decide) ?_
        exact J43 (M) (a0) (0) _ _ _ hP hS (lv_sub hl [0, 1] rfl) h
      · refine lv_iconst (v := 3) C.1 C.2.1 dX7_open_38 (by decide) ?_
        refine lv_goto (tgt := 43) C.1 C.2.1 dX7_open_39 (by decide) ?_
        exact J43 (M) (a0) (3) _ _ _ hP hS (lv_sub hl [0, 1] rfl) h
    · refine lv_iconst (v := 2) C.1 C.2.1 dX7_open_24 (by decide) ?_
      refine lv_goto (tgt := 43) C.1 C.2.1 dX7_open_25 (by decide) ?_
      exact J43 (M) (a0) (2) _ _ _ hP hS (lv_sub hl [0, 1] rfl) h
theorem dX7_close_0 : decode cX7_close 0 = .ok (.aload_n 0, 1) := by decide +kernel
theorem dX7_close_1 : decode cX7_close 1 = .ok (.aload_n 0, 1) := by decide +kernel
theorem dX7_close_2 : decode cX7_close 2 = .ok (.iload_n 1, 1) := by decide +kernel
theorem dX7_close_3 : decode cX7_close 3 = .ok (.invokevirtual 123, 3) := by decide +kernel
theorem dX7_close_6 : decode cX7_close 6 = .ok (.ifCond .ne 7, 3) := by decide +kernel
theorem dX7_close_9 : decode cX7_close 9 = .ok (.iconst 1, 1) := by decide +kernel
theorem dX7_close_10 : decode cX7_close 10 = .ok (.goto 33, 3) := by decide +kernel
theorem dX7_close_13 : decode cX7_close 13 = .ok (.aload_n 0, 1) := by decide +kernel
theorem dX7_close_14 : decode cX7_close 14 = .ok (.iload_n 1, 1) := by decide +kernel
theorem dX7_close_15 : decode cX7_close 15 = .ok (.iconst 3, 1) := by decide +kernel
theorem dX7_close_16 : decode cX7_close 16 = .ok (.invokevirtual 40, 3) := by decide +kernel
theorem dX7_close_19 : decode cX7_close 19 = .ok (.bipush 6, 2) := by decide +kernel
theorem dX7_close_21 : decode cX7_close 21 = .ok (.if_icmp .eq 7, 3) := by decide +kernel
theorem dX7_close_24 : decode cX7_close 24 = .ok (.iconst 2, 1) := by decide +kernel
theorem dX7_close_25 : decode cX7_close 25 = .ok (.goto 18, 3) := by decide +kernel
theorem dX7_close_28 : decode cX7_close 28 = .ok (.aload_n 0, 1) := by decide +kernel
theorem dX7_close_29 : decode cX7_close 29 = .ok (.iload_n 1, 1) := by decide +kernel
theorem dX7_close_30 : decode cX7_close 30 = .ok (.bipush 10, 2) := by decide +kernel
theorem dX7_close_32 : decode cX7_close 32 = .ok (.invokevirtual 40, 3) := by decide +kernel
theorem dX7_close_35 : decode cX7_close 35 = .ok (.ifCond .ne 7, 3) := by decide +kernel
theorem dX7_close_38 : decode cX7_close 38 = .ok (.iconst 3, 1) := by decide +kernel
theorem dX7_close_39 : decode cX7_close 39 = .ok (.goto 4, 3) := by decide +kernel
theorem dX7_close_42 : decode cX7_close 42 = .ok (.iconst 0, 1) := by decide +kernel
theorem dX7_close_43 : decode cX7_close 43 = .ok (.putfield 29, 3) := by decide +kernel
theorem dX7_close_46 : decode cX7_close 46 = .ok (.aload_n 0, 1) := by decide +kernel
theorem dX7_close_47 : decode cX7_close 47 = .ok (.getfield 29, 3) := by decide +kernel
theorem dX7_close_50 : decode cX7_close 50 = .ok (.ifCond .eq 5, 3) := by decide +kernel
theorem dX7_close_53 : decode cX7_close 53 = .ok (.iconst 0, 1) := by decide +kernel
theorem dX7_close_54 : decode cX7_close 54 = .ok (.ireturn, 1) := by decide +kernel
theorem dX7_close_55 : decode cX7_close 55 = .ok (.aload_n 0, 1) := by decide +kernel
theorem dX7_close_56 : decode cX7_close 56 = .ok (.invokevirtual 133, 3) := by decide +kernel
theorem dX7_close_59 : decode cX7_close 59 = .ok (.aload_n 0, 1) := by decide +kernel
theorem dX7_close_60 : decode cX7_close 60 = .ok (.iload_n 1, 1) := by decide +kernel
theorem dX7_close_61 : decode cX7_close 61 = .ok (.bipush 10, 2) := by decide +kernel
theorem dX7_close_63 : decode cX7_close 63 = .ok (.iconst 0, 1) := by decide +kernel
theorem dX7_close_64 : decode cX7_close 64 = .ok (.invokevirtual 54, 3) := by decide +kernel
theorem dX7_close_67 : decode cX7_close 67 = .ok (.aload_n 0, 1) := by decide +kernel
theorem dX7_close_68 : decode cX7_close 68 = .ok (.iload_n 1, 1) := by decide +kernel
theorem dX7_close_69 : decode cX7_close 69 = .ok (.bipush 11, 2) := by decide +kernel
theorem dX7_close_71 : decode cX7_close 71 = .ok (.invokevirtual 40, 3) := by decide +kernel
theorem dX7_close_74 : decode cX7_close 74 = .ok (.istore_n 2, 1) := by decide +kernel
theorem dX7_close_75 : decode cX7_close 75 = .ok (.aload_n 0, 1) := by decide +kernel
theorem dX7_close_76 : decode cX7_close 76 = .ok (.iload_n 1, 1) := by decide +kernel
theorem dX7_close_77 : decode cX7_close 77 = .ok (.bipush 11, 2) := by decide +kernel
theorem dX7_close_79 : decode cX7_close 79 = .ok (.iconst (-1), 1) := by decide +kernel
theorem dX7_close_80 : decode cX7_close 80 = .ok (.invokevirtual 54, 3) := by decide +kernel
theorem dX7_close_83 : decode cX7_close 83 = .ok (.iload_n 2, 1) := by decide +kernel
theorem dX7_close_84 : decode cX7_close 84 = .ok (.iconst (-1), 1) := by decide +kernel
theorem dX7_close_85 : decode cX7_close 85 = .ok (.if_icmp .eq 16, 3) := by decide +kernel
theorem dX7_close_88 : decode cX7_close 88 = .ok (.aload_n 0, 1) := by decide +kernel
theorem dX7_close_89 : decode cX7_close 89 = .ok (.iload_n 2, 1) := by decide +kernel
theorem dX7_close_90 : decode cX7_close 90 = .ok (.invokevirtual 170, 3) := by decide +kernel
theorem dX7_close_93 : decode cX7_close 93 = .ok (.ifCond .eq 8, 3) := by decide +kernel
theorem dX7_close_96 : decode cX7_close 96 = .ok (.aload_n 0, 1) := by decide +kernel
theorem dX7_close_97 : decode cX7_close 97 = .ok (.iload_n 2, 1) := by decide +kernel
theorem dX7_close_98 : decode cX7_close 98 = .ok (.invokevirtual 182, 3) := by decide +kernel
theorem dX7_close_101 : decode cX7_close 101 = .ok (.aload_n 0, 1) := by decide +kernel
theorem dX7_close_102 : decode cX7_close 102 = .ok (.invokevirtual 176, 3) := by decide +kernel
theorem dX7_close_105 : decode cX7_close 105 = .ok (.ireturn, 1) := by decide +kernel
abbrev rmX7_close : Room := { frames := 11, cells := 0, slots := 0, locals := 263 }
noncomputable def fX7_close_101 (n : Nat) (Sh : Sp) (a0 : Nat) (a1 : Int32) (M : Mm) : Option (Int32 × Mm) :=
  (fX7_focusNow n Sh M a0).bind fun r1 =>
  some (r1, M)
noncomputable def fX7_close_43 (n : Nat) (Sh : Sp) (a0 : Nat) (a1 : Int32) (M : Mm) (t0 : Nat) (t1 : Int32) : Option (Int32 × Mm) :=
  pI Sh M t0 7 5 t1 fun M2 =>
  tI M2 a0 5 fun x3 =>
  if x3 = 0 then
    (fX7_keep n Sh M2 a0).bind fun r4 =>
    (fX7_put n Sh r4 a0 a1 10 0).bind fun r5 =>
    (fX7_of n Sh r5 a0 a1 11).bind fun r6 =>
    (fX7_put n Sh r5 a0 a1 11 (-1)).bind fun r7 =>
    if r6 = (-1) then
      fX7_close_101 n Sh a0 a1 r7
    else
      (fX7_mayFocus n Sh r7 a0 r6).bind fun r8 =>
      if r8 = 0 then
        fX7_close_101 n Sh a0 a1 r7
      else
        (fX7_focuses n Sh r7 a0 r6).bind fun r9 =>
        fX7_close_101 n Sh a0 a1 r9
  else
    some (0, M2)
noncomputable def fX7_close (n : Nat) (Sh : Sp) (M : Mm) (a0 : Nat) (a1 : Int32) : Option (Int32 × Mm) :=
  (fX7_isNode n Sh M a0 a1).bind fun r10 =>
  if r10 = 0 then
    fX7_close_43 n Sh a0 a1 M a0 1
  else
    (fX7_of n Sh M a0 a1 3).bind fun r11 =>
    if r11 = 6 then
      (fX7_of n Sh M a0 a1 10).bind fun r12 =>
      if r12 = 0 then
        fX7_close_43 n Sh a0 a1 M a0 3
      else
        fX7_close_43 n Sh a0 a1 M a0 0
    else
      fX7_close_43 n Sh a0 a1 M a0 2
set_option maxRecDepth 100000 in
set_option maxHeartbeats 4000000 in
theorem kX7_close {l : Launch} {G : Gt} {n : Nat} {Sh : Sp} {M : Mm} {a0 : Nat} {a1 : Int32} (hT : Sh a0 = some (.inl 7)) {r : (Int32 × Mm)} (h : fX7_close n Sh M a0 a1 = some r) : Ct l yX7_close cX7_close 3 (some .int) rmX7_close G Sh M [.ref a0, .int a1] (some (.int r.1)) r.2 := by
  refine Ct.of (by decide) (Nat.le_of_ble_eq_true rfl) ?_
  intro p e s m args below meth c ls C hK hX hP hS hb hlk hr hl
  replace hl : lv_has ls 3 [(0, .ref a0), (1, .int a1)] := hl
  have J101 : ∀ (M : Mm) (H : Heap) (locs : List Loc) (ls : Array Slot), HM G Sh M H → SS G s s.heap.size H locs → lv_has ls 3 [(0, .ref a0), (1, .int a1)] → fX7_close_101 n Sh a0 a1 M = some r → W p l e rmX7_close s m args below meth c H locs 0 0 (MQ below (QG G Sh r.2 (some (.int r.1))) args s rmX7_close.cells rmX7_close.slots (AA G)) (F0 m 101 ls []) := by
    intro M H locs ls hP hS hl h
    unfold fX7_close_101 at h
    refine lv_aload_n C.1 C.2.1 dX7_close_101 rfl (lv_at hl 0 rfl) ?_
    obtain ⟨r1, hc, h⟩ := bS h
    refine r_V1 C hK hX hb hP hS hl.1 (kX7_focusNow (hT) hc) hT cl_7 wd_1406 mo_X7_focusNow wd_1408 wd_59 ⟨Nat.le_of_ble_eq_true rfl, Nat.le_of_ble_eq_true rfl⟩ ⟨Nat.le_of_ble_eq_true rfl, Nat.le_of_ble_eq_true rfl⟩ rfl (rest := []) rfl (Nat.le_of_ble_eq_true rfl) dX7_close_102 (fun H locs hP hS => ?_)
    have e := Option.some.inj h
    exact q_i C hlk hP hS hr (by rw [← e]) (by rw [← e]) dX7_close_105
  have J43 : ∀ (M : Mm) (t0 : Nat) (t1 : Int32) (H : Heap) (locs : List Loc) (ls : Array Slot), HM G Sh M H → SS G s s.heap.size H locs → lv_has ls 3 [(0, .ref a0), (1, .int a1)] → fX7_close_43 n Sh a0 a1 M t0 t1 = some r → W p l e rmX7_close s m args below meth c H locs 0 0 (MQ below (QG G Sh r.2 (some (.int r.1))) args s rmX7_close.cells rmX7_close.slots (AA G)) (F0 m 43 ls [.int t1, .ref t0]) := by
    intro M t0 t1 H locs ls hP hS hl h
    unfold fX7_close_43 at h
    refine r_pI C hK hP hS cl_7 (k := 5) (by decide) wd_1149 rfl rfl (tyX7_ok 5 (by decide)) dX7_close_43 h (fun M2 H locs h hP hS => ?_)
    refine lv_aload_n C.1 C.2.1 dX7_close_46 rfl (lv_at hl 0 rfl) ?_
    refine r_tI C hK hP hT cl_7 (k := 5) (by decide) wd_1149 rfl dX7_close_47 h (fun x3 h => ?_)
    refine b_eq (tgt := 55) C dX7_close_50 (by decide) h (fun h => ?_) (fun h => ?_)
    · refine lv_aload_n C.1 C.2.1 dX7_close_55 rfl (lv_at hl 0 rfl) ?_
      obtain ⟨r4, hc, h⟩ := bS h
      refine r_V0 C hK hX hb hP hS hl.1 (kX7_keep (hT) hc) hT cl_7 wd_1209 mo_X7_keep wd_1211 wd_27 ⟨Nat.le_of_ble_eq_true rfl, Nat.le_of_ble_eq_true rfl⟩ ⟨Nat.le_of_ble_eq_true rfl, Nat.le_of_ble_eq_true rfl⟩ rfl (rest := []) rfl (Nat.le_of_ble_eq_true rfl) dX7_close_56 (fun H locs hP hS => ?_)
      refine lv_aload_n C.1 C.2.1 dX7_close_59 rfl (lv_at hl 0 rfl) ?_
      refine lv_iload_n C.1 C.2.1 dX7_close_60 rfl (lv_at hl 1 rfl) ?_
      refine lv_bipush (v := 10) C.1 C.2.1 dX7_close_61 (by decide) ?_
      refine lv_iconst (v := 0) C.1 C.2.1 dX7_close_63 (by decide) ?_
      obtain ⟨r5, hc, h⟩ := bS h
      refine r_V0 C hK hX hb hP hS hl.1 (kX7_put (hT) hc) hT cl_7 wd_1213 mo_X7_put wd_1215 wd_28 ⟨Nat.le_of_ble_eq_true rfl, Nat.le_of_ble_eq_true rfl⟩ ⟨Nat.le_of_ble_eq_true rfl, Nat.le_of_ble_eq_true rfl⟩ rfl (rest := []) rfl (Nat.le_of_ble_eq_true rfl) dX7_close_64 (fun H locs hP hS => ?_)
      refine lv_aload_n C.1 C.2.1 dX7_close_67 rfl (lv_at hl 0 rfl) ?_
      refine lv_iload_n C.1 C.2.1 dX7_close_68 rfl (lv_at hl 1 rfl) ?_
      refine lv_bipush (v := 11) C.1 C.2.1 dX7_close_69 (by decide) ?_
      obtain ⟨r6, hc, h⟩ := bS h
      refine r_V1 C hK hX hb hP hS hl.1 (kX7_of (hT) hc) hT cl_7 wd_1197 mo_X7_of wd_1199 wd_24 ⟨Nat.le_of_ble_eq_true rfl, Nat.le_of_ble_eq_true rfl⟩ ⟨Nat.le_of_ble_eq_true rfl, Nat.le_of_ble_eq_true rfl⟩ rfl (rest := []) rfl (Nat.le_of_ble_eq_true rfl) dX7_close_71 (fun H locs hP hS => ?_)
      refine lv_istore_n (lv' := [(2, .int r6), (0, .ref a0), (1, .int a1)]) C.1 C.2.1 dX7_close_74 rfl hl (by decide) rfl (fun ls hl => ?_)
      refine lv_aload_n C.1 C.2.1 dX7_close_75 rfl (lv_at hl 1 rfl) ?_
      refine lv_iload_n C.1 C.2.1 dX7_close_76 rfl (lv_at hl 2 rfl) ?_
      refine lv_bipush (v := 11) C.1 C.2.1 dX7_close_77 (by decide) ?_
      refine lv_iconst (v := (-1)) C.1 C.2.1 dX7_close_79 (by decide) ?_
      obtain ⟨r7, hc, h⟩ := bS h
      refine r_V0 C hK hX hb hP hS hl.1 (kX7_put (hT) hc) hT cl_7 wd_1213 mo_X7_put wd_1215 wd_28 ⟨Nat.le_of_ble_eq_true rfl, Nat.le_of_ble_eq_true rfl⟩ ⟨Nat.le_of_ble_eq_true rfl, Nat.le_of_ble_eq_true rfl⟩ rfl (rest := []) rfl (Nat.le_of_ble_eq_true rfl) dX7_close_80 (fun H locs hP hS => ?_)
      refine lv_iload_n C.1 C.2.1 dX7_close_83 rfl (lv_at hl 0 rfl) ?_
      refine lv_iconst (v := (-1)) C.1 C.2.1 dX7_close_84 (by decide) ?_
      refine b_ieq (tgt := 101) C dX7_close_85 (by decide) h (fun h => ?_) (fun h => ?_)
      · exact J101 (r7) _ _ _ hP hS (lv_sub hl [1, 2] rfl) h
      · refine lv_aload_n C.1 C.2.1 dX7_close_88 rfl (lv_at hl 1 rfl) ?_
        refine lv_iload_n C.1 C.2.1 dX7_close_89 rfl (lv_at hl 0 rfl) ?_
        obtain ⟨r8, hc, h⟩ := bS h
        refine r_V1 C hK hX hb hP hS hl.1 (kX7_mayFocus (hT) hc) hT cl_7 wd_1386 mo_X7_mayFocus wd_1388 wd_56 ⟨Nat.le_of_ble_eq_true rfl, Nat.le_of_ble_eq_true rfl⟩ ⟨Nat.le_of_ble_eq_true rfl, Nat.le_of_ble_eq_true rfl⟩ rfl (rest := []) rfl (Nat.le_of_ble_eq_true rfl) dX7_close_90 (fun H locs hP hS => ?_)
        refine b_eq (tgt := 101) C dX7_close_93 (by decide) h (fun h => ?_) (fun h => ?_)
        · exact J101 (r7) _ _ _ hP hS (lv_sub hl [1, 2] rfl) h
        · refine lv_aload_n C.1 C.2.1 dX7_close_96 rfl (lv_at hl 1 rfl) ?_
          refine lv_iload_n C.1 C.2.1 dX7_close_97 rfl (lv_at hl 0 rfl) ?_
          obtain ⟨r9, hc, h⟩ := bS h
          refine r_V0 C hK hX hb hP hS hl.1 (kX7_focuses (hT) hc) hT cl_7 wd_1414 mo_X7_focuses wd_1416 wd_60 ⟨Nat.le_of_ble_eq_true rfl, Nat.le_of_ble_eq_true rfl⟩ ⟨Nat.le_of_ble_eq_true rfl, Nat.le_of_ble_eq_true rfl⟩ rfl (rest := []) rfl (Nat.le_of_ble_eq_true rfl) dX7_close_98 (fun H locs hP hS => ?_)
          exact J101 (r9) _ _ _ hP hS (lv_sub hl [1, 2] rfl) h
    · refine lv_iconst (v := 0) C.1 C.2.1 dX7_close_53 (by decide) ?_
      have e := Option.some.inj h
      exact q_i C hlk hP hS hr (by rw [← e]) (by rw [← e]) dX7_close_54
  unfold fX7_close at h
  refine lv_aload_n C.1 C.2.1 dX7_close_0 rfl (lv_at hl 0 rfl) ?_
  refine lv_aload_n C.1 C.2.1 dX7_close_1 rfl (lv_at hl 0 rfl) ?_
  refine lv_iload_n C.1 C.2.1 dX7_close_2 rfl (lv_at hl 1 rfl) ?_
  obtain ⟨r10, hc, h⟩ := bS h
  refine r_V1 C hK hX hb hP hS hl.1 (kX7_isNode (hT) hc) hT cl_7 wd_1190 mo_X7_isNode wd_1192 wd_23 ⟨Nat.le_of_ble_eq_true rfl, Nat.le_of_ble_eq_true rfl⟩ ⟨Nat.le_of_ble_eq_true rfl, Nat.le_of_ble_eq_true rfl⟩ rfl (rest := [.ref a0]) rfl (Nat.le_of_ble_eq_true rfl) dX7_close_3 (fun H locs hP hS => ?_)
  refine b_ne (tgt := 13) C dX7_close_6 (by decide) h (fun h => ?_) (fun h => ?_)
  · refine lv_iconst (v := 1) C.1 C.2.1 dX7_close_9 (by decide) ?_
    refine lv_goto (tgt := 43) C.1 C.2.1 dX7_close_10 (by decide) ?_
    exact J43 (M) (a0) (1) _ _ _ hP hS (lv_sub hl [0, 1] rfl) h
  · refine lv_aload_n C.1 C.2.1 dX7_close_13 rfl (lv_at hl 0 rfl) ?_
    refine lv_iload_n C.1 C.2.1 dX7_close_14 rfl (lv_at hl 1 rfl) ?_
    refine lv_iconst (v := 3) C.1 C.2.1 dX7_close_15 (by decide) ?_
    obtain ⟨r11, hc, h⟩ := bS h
    refine r_V1 C hK hX hb hP hS hl.1 (kX7_of (hT) hc) hT cl_7 wd_1197 mo_X7_of wd_1199 wd_24 ⟨Nat.le_of_ble_eq_true rfl, Nat.le_of_ble_eq_true rfl⟩ ⟨Nat.le_of_ble_eq_true rfl, Nat.le_of_ble_eq_true rfl⟩ rfl (rest := [.ref a0]) rfl (Nat.le_of_ble_eq_true rfl) dX7_close_16 (fun H locs hP hS => ?_)
    refine lv_bipush (v := 6) C.1 C.2.1 dX7_close_19 (by decide) ?_
    refine b_ieq (tgt := 28) C dX7_close_21 (by decide) h (fun h => ?_) (fun h => ?_)
    · refine lv_aload_n C.1 C.2.1 dX7_close_28 rfl (lv_at hl 0 rfl) ?_
      refine lv_iload_n C.1 C.2.1 dX7_close_29 rfl (lv_at hl 1 rfl) ?_
      refine lv_bipush (v := 10) C.1 C.2.1 dX7_close_30 (by decide) ?_
      obtain ⟨r12, hc, h⟩ := bS h
      refine r_V1 C hK hX hb hP hS hl.1 (kX7_of (hT) hc) hT cl_7 wd_1197 mo_X7_of wd_1199 wd_24 ⟨Nat.le_of_ble_eq_true rfl, Nat.le_of_ble_eq_true rfl⟩ ⟨Nat.le_of_ble_eq_true rfl, Nat.le_of_ble_eq_true rfl⟩ rfl (rest := [.ref a0]) rfl (Nat.le_of_ble_eq_true rfl) dX7_close_32 (fun H locs hP hS => ?_)
      refine b_ne (tgt := 42) C dX7_close_35 (by decide) h (fun h => ?_) (fun h => ?_)
      · refine lv_iconst (v := 3) C.1 C.2.1 dX7_close_38 (by decide) ?_
        refine lv_goto (tgt := 43) C.1 C.2.1 dX7_close_39 (by decide) ?_
        exact J43 (M) (a0) (3) _ _ _ hP hS (lv_sub hl [0, 1] rfl) h
      · refine lv_iconst (v := 0) C.1 C.2.1 dX7_close_42 (by decide) ?_
        exact J43 (M) (a0) (0) _ _ _ hP hS (lv_sub hl [0, 1] rfl) h
    · refine lv_iconst (v := 2) C.1 C.2.1 dX7_close_24 (by decide) ?_
      refine lv_goto (tgt := 43) C.1 C.2.1 dX7_close_25 (by decide) ?_
      exact J43 (M) (a0) (2) _ _ _ hP hS (lv_sub hl [0, 1] rfl) h
theorem dX7_trap_0 : decode cX7_trap 0 = .ok (.aload_n 0, 1) := by decide +kernel
theorem dX7_trap_1 : decode cX7_trap 1 = .ok (.iconst 0, 1) := by decide +kernel
theorem dX7_trap_2 : decode cX7_trap 2 = .ok (.putfield 29, 3) := by decide +kernel
theorem dX7_trap_5 : decode cX7_trap 5 = .ok (.aload_n 0, 1) := by decide +kernel
theorem dX7_trap_6 : decode cX7_trap 6 = .ok (.invokevirtual 164, 3) := by decide +kernel
theorem dX7_trap_9 : decode cX7_trap 9 = .ok (.ireturn, 1) := by decide +kernel
abbrev rmX7_trap : Room := { frames := 5, cells := 0, slots := 0, locals := 129 }
noncomputable def fX7_trap (n : Nat) (Sh : Sp) (M : Mm) (a0 : Nat) : Option (Int32 × Mm) :=
  qI M a0 5 0 fun M1 =>
  (fX7_trapNow n Sh M1 a0).bind fun r2 =>
  some (r2, M1)
set_option maxRecDepth 100000 in
set_option maxHeartbeats 4000000 in
theorem kX7_trap {l : Launch} {G : Gt} {n : Nat} {Sh : Sp} {M : Mm} {a0 : Nat} (hT : Sh a0 = some (.inl 7)) {r : (Int32 × Mm)} (h : fX7_trap n Sh M a0 = some r) : Ct l yX7_trap cX7_trap 1 (some .int) rmX7_trap G Sh M [.ref a0] (some (.int r.1)) r.2 := by
  refine Ct.of (by decide) (Nat.le_of_ble_eq_true rfl) ?_
  intro p e s m args below meth c ls C hK hX hP hS hb hlk hr hl
  replace hl : lv_has ls 1 [(0, .ref a0)] := hl
  unfold fX7_trap at h
  refine lv_aload_n C.1 C.2.1 dX7_trap_0 rfl (lv_at hl 0 rfl) ?_
  refine lv_iconst (v := 0) C.1 C.2.1 dX7_trap_1 (by decide) ?_
  refine r_qI C hK hP hS hT cl_7 (k := 5) (by decide) wd_1149 rfl rfl (tyX7_ok 5 (by decide)) dX7_trap_2 h (fun M1 H locs h hP hS => ?_)
  refine lv_aload_n C.1 C.2.1 dX7_trap_5 rfl (lv_at hl 0 rfl) ?_
  obtain ⟨r2, hc, h⟩ := bS h
  refine r_V1 C hK hX hb hP hS hl.1 (kX7_trapNow (hT) hc) hT cl_7 wd_1390 mo_X7_trapNow wd_1392 wd_57 ⟨Nat.le_of_ble_eq_true rfl, Nat.le_of_ble_eq_true rfl⟩ ⟨Nat.le_of_ble_eq_true rfl, Nat.le_of_ble_eq_true rfl⟩ rfl (rest := []) rfl (Nat.le_of_ble_eq_true rfl) dX7_trap_6 (fun H locs hP hS => ?_)
  have e := Option.some.inj h
  exact q_i C hlk hP hS hr (by rw [← e]) (by rw [← e]) dX7_trap_9
theorem dX7_region_0 : decode cX7_region 0 = .ok (.aload_n 0, 1) := by decide +kernel
theorem dX7_region_1 : decode cX7_region 1 = .ok (.aload_n 0, 1) := by decide +kernel
theorem dX7_region_2 : decode cX7_region 2 = .ok (.iload_n 1, 1) := by decide +kernel
theorem dX7_region_3 : decode cX7_region 3 = .ok (.invokevirtual 123, 3) := by decide +kernel
theorem dX7_region_6 : decode cX7_region 6 = .ok (.ifCond .eq 7, 3) := by decide +kernel
theorem dX7_region_9 : decode cX7_region 9 = .ok (.iconst 0, 1) := by decide +kernel
theorem dX7_region_10 : decode cX7_region 10 = .ok (.goto 4, 3) := by decide +kernel
theorem dX7_region_13 : decode cX7_region 13 = .ok (.iconst 1, 1) := by decide +kernel
theorem dX7_region_14 : decode cX7_region 14 = .ok (.putfield 29, 3) := by decide +kernel
theorem dX7_region_17 : decode cX7_region 17 = .ok (.aload_n 0, 1) := by decide +kernel
theorem dX7_region_18 : decode cX7_region 18 = .ok (.getfield 29, 3) := by decide +kernel
theorem dX7_region_21 : decode cX7_region 21 = .ok (.ifCond .eq 7, 3) := by decide +kernel
theorem dX7_region_24 : decode cX7_region 24 = .ok (.iconst 0, 1) := by decide +kernel
theorem dX7_region_25 : decode cX7_region 25 = .ok (.goto 8, 3) := by decide +kernel
theorem dX7_region_28 : decode cX7_region 28 = .ok (.aload_n 0, 1) := by decide +kernel
theorem dX7_region_29 : decode cX7_region 29 = .ok (.iload_n 1, 1) := by decide +kernel
theorem dX7_region_30 : decode cX7_region 30 = .ok (.invokevirtual 111, 3) := by decide +kernel
theorem dX7_region_33 : decode cX7_region 33 = .ok (.ireturn, 1) := by decide +kernel
abbrev rmX7_region : Room := { frames := 3, cells := 0, slots := 0, locals := 84 }
noncomputable def fX7_region_14 (n : Nat) (Sh : Sp) (a0 : Nat) (a1 : Int32) (M : Mm) (t0 : Nat) (t1 : Int32) : Option (Int32 × Mm) :=
  pI Sh M t0 7 5 t1 fun M1 =>
  tI M1 a0 5 fun x2 =>
  if x2 = 0 then
    (fX7_regionOf n Sh M1 a0 a1).bind fun r3 =>
    some (r3, M1)
  else
    some (0, M1)
noncomputable def fX7_region (n : Nat) (Sh : Sp) (M : Mm) (a0 : Nat) (a1 : Int32) : Option (Int32 × Mm) :=
  (fX7_isNode n Sh M a0 a1).bind fun r4 =>
  if r4 = 0 then
    fX7_region_14 n Sh a0 a1 M a0 1
  else
    fX7_region_14 n Sh a0 a1 M a0 0
set_option maxRecDepth 100000 in
set_option maxHeartbeats 4000000 in
theorem kX7_region {l : Launch} {G : Gt} {n : Nat} {Sh : Sp} {M : Mm} {a0 : Nat} {a1 : Int32} (hT : Sh a0 = some (.inl 7)) {r : (Int32 × Mm)} (h : fX7_region n Sh M a0 a1 = some r) : Ct l yX7_region cX7_region 2 (some .int) rmX7_region G Sh M [.ref a0, .int a1] (some (.int r.1)) r.2 := by
  refine Ct.of (by decide) (Nat.le_of_ble_eq_true rfl) ?_
  intro p e s m args below meth c ls C hK hX hP hS hb hlk hr hl
  replace hl : lv_has ls 2 [(0, .ref a0), (1, .int a1)] := hl
  have J14 : ∀ (M : Mm) (t0 : Nat) (t1 : Int32) (H : Heap) (locs : List Loc) (ls : Array Slot), HM G Sh M H → SS G s s.heap.size H locs → lv_has ls 2 [(0, .ref a0), (1, .int a1)] → fX7_region_14 n Sh a0 a1 M t0 t1 = some r → W p l e rmX7_region s m args below meth c H locs 0 0 (MQ below (QG G Sh r.2 (some (.int r.1))) args s rmX7_region.cells rmX7_region.slots (AA G)) (F0 m 14 ls [.int t1, .ref t0]) := by
    intro M t0 t1 H locs ls hP hS hl h
    unfold fX7_region_14 at h
    refine r_pI C hK hP hS cl_7 (k := 5) (by decide) wd_1149 rfl rfl (tyX7_ok 5 (by decide)) dX7_region_14 h (fun M1 H locs h hP hS => ?_)
    refine lv_aload_n C.1 C.2.1 dX7_region_17 rfl (lv_at hl 0 rfl) ?_
    refine r_tI C hK hP hT cl_7 (k := 5) (by decide) wd_1149 rfl dX7_region_18 h (fun x2 h => ?_)
    refine b_eq (tgt := 28) C dX7_region_21 (by decide) h (fun h => ?_) (fun h => ?_)
    · refine lv_aload_n C.1 C.2.1 dX7_region_28 rfl (lv_at hl 0 rfl) ?_
      refine lv_iload_n C.1 C.2.1 dX7_region_29 rfl (lv_at hl 1 rfl) ?_
      obtain ⟨r3, hc, h⟩ := bS h
      refine r_V1 C hK hX hb hP hS hl.1 (kX7_regionOf (hT) hc) hT cl_7 wd_1287 mo_X7_regionOf wd_1289 wd_39 ⟨Nat.le_of_ble_eq_true rfl, Nat.le_of_ble_eq_true rfl⟩ ⟨Nat.le_of_ble_eq_true rfl, Nat.le_of_ble_eq_true rfl⟩ rfl (rest := []) rfl (Nat.le_of_ble_eq_true rfl) dX7_region_30 (fun H locs hP hS => ?_)
      have e := Option.some.inj h
      exact q_i C hlk hP hS hr (by rw [← e]) (by rw [← e]) dX7_region_33
    · refine lv_iconst (v := 0) C.1 C.2.1 dX7_region_24 (by decide) ?_
      refine lv_goto (tgt := 33) C.1 C.2.1 dX7_region_25 (by decide) ?_
      have e := Option.some.inj h
      exact q_i C hlk hP hS hr (by rw [← e]) (by rw [← e]) dX7_region_33
  unfold fX7_region at h
  refine lv_aload_n C.1 C.2.1 dX7_region_0 rfl (lv_at hl 0 rfl) ?_
  refine lv_aload_n C.1 C.2.1 dX7_region_1 rfl (lv_at hl 0 rfl) ?_
  refine lv_iload_n C.1 C.2.1 dX7_region_2 rfl (lv_at hl 1 rfl) ?_
  obtain ⟨r4, hc, h⟩ := bS h
  refine r_V1 C hK hX hb hP hS hl.1 (kX7_isNode (hT) hc) hT cl_7 wd_1190 mo_X7_isNode wd_1192 wd_23 ⟨Nat.le_of_ble_eq_true rfl, Nat.le_of_ble_eq_true rfl⟩ ⟨Nat.le_of_ble_eq_true rfl, Nat.le_of_ble_eq_true rfl⟩ rfl (rest := [.ref a0]) rfl (Nat.le_of_ble_eq_true rfl) dX7_region_3 (fun H locs hP hS => ?_)
  refine b_eq (tgt := 13) C dX7_region_6 (by decide) h (fun h => ?_) (fun h => ?_)
  · refine lv_iconst (v := 1) C.1 C.2.1 dX7_region_13 (by decide) ?_
    exact J14 (M) (a0) (1) _ _ _ hP hS (lv_sub hl [0, 1] rfl) h
  · refine lv_iconst (v := 0) C.1 C.2.1 dX7_region_9 (by decide) ?_
    refine lv_goto (tgt := 14) C.1 C.2.1 dX7_region_10 (by decide) ?_
    exact J14 (M) (a0) (0) _ _ _ hP hS (lv_sub hl [0, 1] rfl) h
theorem dX7_pending_0 : decode cX7_pending 0 = .ok (.aload_n 0, 1) := by decide +kernel
theorem dX7_pending_1 : decode cX7_pending 1 = .ok (.iconst 0, 1) := by decide +kernel
theorem dX7_pending_2 : decode cX7_pending 2 = .ok (.putfield 29, 3) := by decide +kernel
theorem dX7_pending_5 : decode cX7_pending 5 = .ok (.aload_n 0, 1) := by decide +kernel
theorem dX7_pending_6 : decode cX7_pending 6 = .ok (.getfield 7, 3) := by decide +kernel
theorem dX7_pending_9 : decode cX7_pending 9 = .ok (.sipush 720, 3) := by decide +kernel
theorem dX7_pending_12 : decode cX7_pending 12 = .ok (.iaload, 1) := by decide +kernel
theorem dX7_pending_13 : decode cX7_pending 13 = .ok (.ireturn, 1) := by decide +kernel
abbrev rmX7_pending : Room := { frames := 1, cells := 0, slots := 0, locals := 40 }
noncomputable def fX7_pending (n : Nat) (Sh : Sp) (M : Mm) (a0 : Nat) : Option (Int32 × Mm) :=
  qI M a0 5 0 fun M1 =>
  tF M1 a0 0 fun b2 =>
  aI Sh M1 b2 0 720 fun x3 =>
  some (x3, M1)
set_option maxRecDepth 100000 in
set_option maxHeartbeats 4000000 in
theorem kX7_pending {l : Launch} {G : Gt} {n : Nat} {Sh : Sp} {M : Mm} {a0 : Nat} (hT : Sh a0 = some (.inl 7)) {r : (Int32 × Mm)} (h : fX7_pending n Sh M a0 = some r) : Ct l yX7_pending cX7_pending 1 (some .int) rmX7_pending G Sh M [.ref a0] (some (.int r.1)) r.2 := by
  refine Ct.of (by decide) (Nat.le_of_ble_eq_true rfl) ?_
  intro p e s m args below meth c ls C hK hX hP hS hb hlk hr hl
  replace hl : lv_has ls 1 [(0, .ref a0)] := hl
  unfold fX7_pending at h
  refine lv_aload_n C.1 C.2.1 dX7_pending_0 rfl (lv_at hl 0 rfl) ?_
  refine lv_iconst (v := 0) C.1 C.2.1 dX7_pending_1 (by decide) ?_
  refine r_qI C hK hP hS hT cl_7 (k := 5) (by decide) wd_1149 rfl rfl (tyX7_ok 5 (by decide)) dX7_pending_2 h (fun M1 H locs h hP hS => ?_)
  refine lv_aload_n C.1 C.2.1 dX7_pending_5 rfl (lv_at hl 0 rfl) ?_
  refine r_tF C hK hP hT cl_7 (k := 0) (by decide) wd_1144 rfl dX7_pending_6 h (fun b2 h => ?_)
  refine lv_sipush (v := 720) C.1 C.2.1 dX7_pending_9 (by decide) ?_
  refine r_aI C hK hP dX7_pending_12 h (fun x3 h => ?_)
  have e := Option.some.inj h
  exact q_i C hlk hP hS hr (by rw [← e]) (by rw [← e]) dX7_pending_13
theorem dX7_announcement_0 : decode cX7_announcement 0 = .ok (.aload_n 0, 1) := by decide +kernel
theorem dX7_announcement_1 : decode cX7_announcement 1 = .ok (.iload_n 2, 1) := by decide +kernel
theorem dX7_announcement_2 : decode cX7_announcement 2 = .ok (.iconst 0, 1) := by decide +kernel
theorem dX7_announcement_3 : decode cX7_announcement 3 = .ok (.iconst 3, 1) := by decide +kernel
theorem dX7_announcement_4 : decode cX7_announcement 4 = .ok (.invokestatic 36, 3) := by decide +kernel
theorem dX7_announcement_7 : decode cX7_announcement 7 = .ok (.ifCond .eq 7, 3) := by decide +kernel
theorem dX7_announcement_10 : decode cX7_announcement 10 = .ok (.iconst 0, 1) := by decide +kernel
theorem dX7_announcement_11 : decode cX7_announcement 11 = .ok (.goto 4, 3) := by decide +kernel
theorem dX7_announcement_14 : decode cX7_announcement 14 = .ok (.iconst 1, 1) := by decide +kernel
theorem dX7_announcement_15 : decode cX7_announcement 15 = .ok (.putfield 29, 3) := by decide +kernel
theorem dX7_announcement_18 : decode cX7_announcement 18 = .ok (.aload_n 0, 1) := by decide +kernel
theorem dX7_announcement_19 : decode cX7_announcement 19 = .ok (.getfield 29, 3) := by decide +kernel
theorem dX7_announcement_22 : decode cX7_announcement 22 = .ok (.ifCond .eq 5, 3) := by decide +kernel
theorem dX7_announcement_25 : decode cX7_announcement 25 = .ok (.iconst 0, 1) := by decide +kernel
theorem dX7_announcement_26 : decode cX7_announcement 26 = .ok (.ireturn, 1) := by decide +kernel
theorem dX7_announcement_27 : decode cX7_announcement 27 = .ok (.iload_n 1, 1) := by decide +kernel
theorem dX7_announcement_28 : decode cX7_announcement 28 = .ok (.iconst 0, 1) := by decide +kernel
theorem dX7_announcement_29 : decode cX7_announcement 29 = .ok (.aload_n 0, 1) := by decide +kernel
theorem dX7_announcement_30 : decode cX7_announcement 30 = .ok (.getfield 7, 3) := by decide +kernel
theorem dX7_announcement_33 : decode cX7_announcement 33 = .ok (.sipush 720, 3) := by decide +kernel
theorem dX7_announcement_36 : decode cX7_announcement 36 = .ok (.iaload, 1) := by decide +kernel
theorem dX7_announcement_37 : decode cX7_announcement 37 = .ok (.iconst 1, 1) := by decide +kernel
theorem dX7_announcement_38 : decode cX7_announcement 38 = .ok (.isub, 1) := by decide +kernel
theorem dX7_announcement_39 : decode cX7_announcement 39 = .ok (.invokestatic 36, 3) := by decide +kernel
theorem dX7_announcement_42 : decode cX7_announcement 42 = .ok (.ifCond .eq 17, 3) := by decide +kernel
theorem dX7_announcement_45 : decode cX7_announcement 45 = .ok (.aload_n 0, 1) := by decide +kernel
theorem dX7_announcement_46 : decode cX7_announcement 46 = .ok (.getfield 7, 3) := by decide +kernel
theorem dX7_announcement_49 : decode cX7_announcement 49 = .ok (.iload_n 1, 1) := by decide +kernel
theorem dX7_announcement_50 : decode cX7_announcement 50 = .ok (.invokestatic 100, 3) := by decide +kernel
theorem dX7_announcement_53 : decode cX7_announcement 53 = .ok (.iload_n 2, 1) := by decide +kernel
theorem dX7_announcement_54 : decode cX7_announcement 54 = .ok (.iadd, 1) := by decide +kernel
theorem dX7_announcement_55 : decode cX7_announcement 55 = .ok (.iaload, 1) := by decide +kernel
theorem dX7_announcement_56 : decode cX7_announcement 56 = .ok (.goto 4, 3) := by decide +kernel
theorem dX7_announcement_59 : decode cX7_announcement 59 = .ok (.iconst (-1), 1) := by decide +kernel
theorem dX7_announcement_60 : decode cX7_announcement 60 = .ok (.ireturn, 1) := by decide +kernel
abbrev rmX7_announcement : Room := { frames := 2, cells := 0, slots := 0, locals := 62 }
noncomputable def fX7_announcement_15 (n : Nat) (Sh : Sp) (a0 : Nat) (a1 : Int32) (a2 : Int32) (M : Mm) (t0 : Nat) (t1 : Int32) : Option (Int32 × Mm) :=
  pI Sh M t0 7 5 t1 fun M1 =>
  tI M1 a0 5 fun x2 =>
  if x2 = 0 then
    tF M1 a0 0 fun b3 =>
    aI Sh M1 b3 0 720 fun x4 =>
    (fX7_in n Sh M1 a1 0 (x4 - 1)).bind fun r5 =>
    if r5 = 0 then
      some ((-1), M1)
    else
      tF M1 a0 0 fun b6 =>
      (fX7_startOf n Sh M1 a1).bind fun r7 =>
      aI Sh M1 b6 0 (r7 + a2) fun x8 =>
      some (x8, M1)
  else
    some (0, M1)
noncomputable def fX7_announcement (n : Nat) (Sh : Sp) (M : Mm) (a0 : Nat) (a1 : Int32) (a2 : Int32) : Option (Int32 × Mm) :=
  (fX7_in n Sh M a2 0 3).bind fun r9 =>
  if r9 = 0 then
    fX7_announcement_15 n Sh a0 a1 a2 M a0 1
  else
    fX7_announcement_15 n Sh a0 a1 a2 M a0 0
set_option maxRecDepth 100000 in
set_option maxHeartbeats 4000000 in
theorem kX7_announcement {l : Launch} {G : Gt} {n : Nat} {Sh : Sp} {M : Mm} {a0 : Nat} {a1 : Int32} {a2 : Int32} (hT : Sh a0 = some (.inl 7)) {r : (Int32 × Mm)} (h : fX7_announcement n Sh M a0 a1 a2 = some r) : Ct l yX7_announcement cX7_announcement 3 (some .int) rmX7_announcement G Sh M [.ref a0, .int a1, .int a2] (some (.int r.1)) r.2 := by
  refine Ct.of (by decide) (Nat.le_of_ble_eq_true rfl) ?_
  intro p e s m args below meth c ls C hK hX hP hS hb hlk hr hl
  replace hl : lv_has ls 3 [(0, .ref a0), (1, .int a1), (2, .int a2)] := hl
  have J15 : ∀ (M : Mm) (t0 : Nat) (t1 : Int32) (H : Heap) (locs : List Loc) (ls : Array Slot), HM G Sh M H → SS G s s.heap.size H locs → lv_has ls 3 [(0, .ref a0), (1, .int a1), (2, .int a2)] → fX7_announcement_15 n Sh a0 a1 a2 M t0 t1 = some r → W p l e rmX7_announcement s m args below meth c H locs 0 0 (MQ below (QG G Sh r.2 (some (.int r.1))) args s rmX7_announcement.cells rmX7_announcement.slots (AA G)) (F0 m 15 ls [.int t1, .ref t0]) := by
    intro M t0 t1 H locs ls hP hS hl h
    unfold fX7_announcement_15 at h
    refine r_pI C hK hP hS cl_7 (k := 5) (by decide) wd_1149 rfl rfl (tyX7_ok 5 (by decide)) dX7_announcement_15 h (fun M1 H locs h hP hS => ?_)
    refine lv_aload_n C.1 C.2.1 dX7_announcement_18 rfl (lv_at hl 0 rfl) ?_
    refine r_tI C hK hP hT cl_7 (k := 5) (by decide) wd_1149 rfl dX7_announcement_19 h (fun x2 h => ?_)
    refine b_eq (tgt := 27) C dX7_announcement_22 (by decide) h (fun h => ?_) (fun h => ?_)
    · refine lv_iload_n C.1 C.2.1 dX7_announcement_27 rfl (lv_at hl 1 rfl) ?_
      refine lv_iconst (v := 0) C.1 C.2.1 dX7_announcement_28 (by decide) ?_
      refine lv_aload_n C.1 C.2.1 dX7_announcement_29 rfl (lv_at hl 0 rfl) ?_
      refine r_tF C hK hP hT cl_7 (k := 0) (by decide) wd_1144 rfl dX7_announcement_30 h (fun b3 h => ?_)
      refine lv_sipush (v := 720) C.1 C.2.1 dX7_announcement_33 (by decide) ?_
      refine r_aI C hK hP dX7_announcement_36 h (fun x4 h => ?_)
      refine lv_iconst (v := 1) C.1 C.2.1 dX7_announcement_37 (by decide) ?_
      refine lv_isub C.1 C.2.1 dX7_announcement_38 ?_
      obtain ⟨r5, hc, h⟩ := bS h
      refine r_S1 C hK hX hb hP hS hl.1 (kX7_in hc) wd_1194 mo_X7_in wd_1195 ⟨Nat.le_of_ble_eq_true rfl, Nat.le_of_ble_eq_true rfl⟩ ⟨Nat.le_of_ble_eq_true rfl, Nat.le_of_ble_eq_true rfl⟩ rfl (rest := []) rfl (Nat.le_of_ble_eq_true rfl) dX7_announcement_39 (fun H locs hP hS => ?_)
      refine b_eq (tgt := 59) C dX7_announcement_42 (by decide) h (fun h => ?_) (fun h => ?_)
      · refine lv_iconst (v := (-1)) C.1 C.2.1 dX7_announcement_59 (by decide) ?_
        have e := Option.some.inj h
        exact q_i C hlk hP hS hr (by rw [← e]) (by rw [← e]) dX7_announcement_60
      · refine lv_aload_n C.1 C.2.1 dX7_announcement_45 rfl (lv_at hl 0 rfl) ?_
        refine r_tF C hK hP hT cl_7 (k := 0) (by decide) wd_1144 rfl dX7_announcement_46 h (fun b6 h => ?_)
        refine lv_iload_n C.1 C.2.1 dX7_announcement_49 rfl (lv_at hl 1 rfl) ?_
        obtain ⟨r7, hc, h⟩ := bS h
        refine r_S1 C hK hX hb hP hS hl.1 (kX7_startOf hc) wd_1237 mo_X7_startOf wd_1238 ⟨Nat.le_of_ble_eq_true rfl, Nat.le_of_ble_eq_true rfl⟩ ⟨Nat.le_of_ble_eq_true rfl, Nat.le_of_ble_eq_true rfl⟩ rfl (rest := [.ref b6]) rfl (Nat.le_of_ble_eq_true rfl) dX7_announcement_50 (fun H locs hP hS => ?_)
        refine lv_iload_n C.1 C.2.1 dX7_announcement_53 rfl (lv_at hl 2 rfl) ?_
        refine lv_iadd C.1 C.2.1 dX7_announcement_54 ?_
        refine r_aI C hK hP dX7_announcement_55 h (fun x8 h => ?_)
        refine lv_goto (tgt := 60) C.1 C.2.1 dX7_announcement_56 (by decide) ?_
        have e := Option.some.inj h
        exact q_i C hlk hP hS hr (by rw [← e]) (by rw [← e]) dX7_announcement_60
    · refine lv_iconst (v := 0) C.1 C.2.1 dX7_announcement_25 (by decide) ?_
      have e := Option.some.inj h
      exact q_i C hlk hP hS hr (by rw [← e]) (by rw [← e]) dX7_announcement_26
  unfold fX7_announcement at h
  refine lv_aload_n C.1 C.2.1 dX7_announcement_0 rfl (lv_at hl 0 rfl) ?_
  refine lv_iload_n C.1 C.2.1 dX7_announcement_1 rfl (lv_at hl 2 rfl) ?_
  refine lv_iconst (v := 0) C.1 C.2.1 dX7_announcement_2 (by decide) ?_
  refine lv_iconst (v := 3) C.1 C.2.1 dX7_announcement_3 (by decide) ?_
  obtain ⟨r9, hc, h⟩ := bS h
  refine r_S1 C hK hX hb hP hS hl.1 (kX7_in hc) wd_1194 mo_X7_in wd_1195 ⟨Nat.le_of_ble_eq_true rfl, Nat.le_of_ble_eq_true rfl⟩ ⟨Nat.le_of_ble_eq_true rfl, Nat.le_of_ble_eq_true rfl⟩ rfl (rest := [.ref a0]) rfl (Nat.le_of_ble_eq_true rfl) dX7_announcement_4 (fun H locs hP hS => ?_)
  refine b_eq (tgt := 14) C dX7_announcement_7 (by decide) h (fun h => ?_) (fun h => ?_)
  · refine lv_iconst (v := 1) C.1 C.2.1 dX7_announcement_14 (by decide) ?_
    exact J15 (M) (a0) (1) _ _ _ hP hS (lv_sub hl [0, 1, 2] rfl) h
  · refine lv_iconst (v := 0) C.1 C.2.1 dX7_announcement_10 (by decide) ?_
    refine lv_goto (tgt := 15) C.1 C.2.1 dX7_announcement_11 (by decide) ?_
    exact J15 (M) (a0) (0) _ _ _ hP hS (lv_sub hl [0, 1, 2] rfl) h
theorem dX7_announcedAt_0 : decode cX7_announcedAt 0 = .ok (.iload_n 1, 1) := by decide +kernel
theorem dX7_announcedAt_1 : decode cX7_announcedAt 1 = .ok (.iconst 0, 1) := by decide +kernel
theorem dX7_announcedAt_2 : decode cX7_announcedAt 2 = .ok (.aload_n 0, 1) := by decide +kernel
theorem dX7_announcedAt_3 : decode cX7_announcedAt 3 = .ok (.getfield 7, 3) := by decide +kernel
theorem dX7_announcedAt_6 : decode cX7_announcedAt 6 = .ok (.sipush 720, 3) := by decide +kernel
theorem dX7_announcedAt_9 : decode cX7_announcedAt 9 = .ok (.iaload, 1) := by decide +kernel
theorem dX7_announcedAt_10 : decode cX7_announcedAt 10 = .ok (.iconst 1, 1) := by decide +kernel
theorem dX7_announcedAt_11 : decode cX7_announcedAt 11 = .ok (.isub, 1) := by decide +kernel
theorem dX7_announcedAt_12 : decode cX7_announcedAt 12 = .ok (.invokestatic 36, 3) := by decide +kernel
theorem dX7_announcedAt_15 : decode cX7_announcedAt 15 = .ok (.ifCond .eq 40, 3) := by decide +kernel
theorem dX7_announcedAt_18 : decode cX7_announcedAt 18 = .ok (.iload_n 2, 1) := by decide +kernel
theorem dX7_announcedAt_19 : decode cX7_announcedAt 19 = .ok (.iconst 0, 1) := by decide +kernel
theorem dX7_announcedAt_20 : decode cX7_announcedAt 20 = .ok (.aload_n 0, 1) := by decide +kernel
theorem dX7_announcedAt_21 : decode cX7_announcedAt 21 = .ok (.getfield 7, 3) := by decide +kernel
theorem dX7_announcedAt_24 : decode cX7_announcedAt 24 = .ok (.iload_n 1, 1) := by decide +kernel
theorem dX7_announcedAt_25 : decode cX7_announcedAt 25 = .ok (.invokestatic 100, 3) := by decide +kernel
theorem dX7_announcedAt_28 : decode cX7_announcedAt 28 = .ok (.iconst 3, 1) := by decide +kernel
theorem dX7_announcedAt_29 : decode cX7_announcedAt 29 = .ok (.iadd, 1) := by decide +kernel
theorem dX7_announcedAt_30 : decode cX7_announcedAt 30 = .ok (.iaload, 1) := by decide +kernel
theorem dX7_announcedAt_31 : decode cX7_announcedAt 31 = .ok (.iconst 1, 1) := by decide +kernel
theorem dX7_announcedAt_32 : decode cX7_announcedAt 32 = .ok (.isub, 1) := by decide +kernel
theorem dX7_announcedAt_33 : decode cX7_announcedAt 33 = .ok (.invokestatic 36, 3) := by decide +kernel
theorem dX7_announcedAt_36 : decode cX7_announcedAt 36 = .ok (.ifCond .eq 19, 3) := by decide +kernel
theorem dX7_announcedAt_39 : decode cX7_announcedAt 39 = .ok (.aload_n 0, 1) := by decide +kernel
theorem dX7_announcedAt_40 : decode cX7_announcedAt 40 = .ok (.getfield 7, 3) := by decide +kernel
theorem dX7_announcedAt_43 : decode cX7_announcedAt 43 = .ok (.iload_n 1, 1) := by decide +kernel
theorem dX7_announcedAt_44 : decode cX7_announcedAt 44 = .ok (.invokestatic 100, 3) := by decide +kernel
theorem dX7_announcedAt_47 : decode cX7_announcedAt 47 = .ok (.iconst 4, 1) := by decide +kernel
theorem dX7_announcedAt_48 : decode cX7_announcedAt 48 = .ok (.iadd, 1) := by decide +kernel
theorem dX7_announcedAt_49 : decode cX7_announcedAt 49 = .ok (.iload_n 2, 1) := by decide +kernel
theorem dX7_announcedAt_50 : decode cX7_announcedAt 50 = .ok (.iadd, 1) := by decide +kernel
theorem dX7_announcedAt_51 : decode cX7_announcedAt 51 = .ok (.iaload, 1) := by decide +kernel
theorem dX7_announcedAt_52 : decode cX7_announcedAt 52 = .ok (.goto 4, 3) := by decide +kernel
theorem dX7_announcedAt_55 : decode cX7_announcedAt 55 = .ok (.iconst (-1), 1) := by decide +kernel
theorem dX7_announcedAt_56 : decode cX7_announcedAt 56 = .ok (.ireturn, 1) := by decide +kernel
abbrev rmX7_announcedAt : Room := { frames := 2, cells := 0, slots := 0, locals := 62 }
noncomputable def fX7_announcedAt (n : Nat) (Sh : Sp) (M : Mm) (a0 : Nat) (a1 : Int32) (a2 : Int32) : Option Int32 :=
  tF M a0 0 fun b1 =>
  aI Sh M b1 0 720 fun x2 =>
  (fX7_in n Sh M a1 0 (x2 - 1)).bind fun r3 =>
  if r3 = 0 then
    some (-1)
  else
    tF M a0 0 fun b4 =>
    (fX7_startOf n Sh M a1).bind fun r5 =>
    aI Sh M b4 0 (r5 + 3) fun x6 =>
    (fX7_in n Sh M a2 0 (x6 - 1)).bind fun r7 =>
    if r7 = 0 then
      some (-1)
    else
      tF M a0 0 fun b8 =>
      (fX7_startOf n Sh M a1).bind fun r9 =>
      aI Sh M b8 0 ((r9 + 4) + a2) fun x10 =>
      some x10
set_option maxRecDepth 100000 in
set_option maxHeartbeats 4000000 in
theorem kX7_announcedAt {l : Launch} {G : Gt} {n : Nat} {Sh : Sp} {M : Mm} {a0 : Nat} {a1 : Int32} {a2 : Int32} (hT : Sh a0 = some (.inl 7)) {r : Int32} (h : fX7_announcedAt n Sh M a0 a1 a2 = some r) : Ct l yX7_announcedAt cX7_announcedAt 3 (some .int) rmX7_announcedAt G Sh M [.ref a0, .int a1, .int a2] (some (.int r)) M := by
  refine Ct.of (by decide) (Nat.le_of_ble_eq_true rfl) ?_
  intro p e s m args below meth c ls C hK hX hP hS hb hlk hr hl
  replace hl : lv_has ls 3 [(0, .ref a0), (1, .int a1), (2, .int a2)] := hl
  unfold fX7_announcedAt at h
  refine lv_iload_n C.1 C.2.1 dX7_announcedAt_0 rfl (lv_at hl 1 rfl) ?_
  refine lv_iconst (v := 0) C.1 C.2.1 dX7_announcedAt_1 (by decide) ?_
  refine lv_aload_n C.1 C.2.1 dX7_announcedAt_2 rfl (lv_at hl 0 rfl) ?_
  refine r_tF C hK hP hT cl_7 (k := 0) (by decide) wd_1144 rfl dX7_announcedAt_3 h (fun b1 h => ?_)
  refine lv_sipush (v := 720) C.1 C.2.1 dX7_announcedAt_6 (by decide) ?_
  refine r_aI C hK hP dX7_announcedAt_9 h (fun x2 h => ?_)
  refine lv_iconst (v := 1) C.1 C.2.1 dX7_announcedAt_10 (by decide) ?_
  refine lv_isub C.1 C.2.1 dX7_announcedAt_11 ?_
  obtain ⟨r3, hc, h⟩ := bS h
  refine r_S1 C hK hX hb hP hS hl.1 (kX7_in hc) wd_1194 mo_X7_in wd_1195 ⟨Nat.le_of_ble_eq_true rfl, Nat.le_of_ble_eq_true rfl⟩ ⟨Nat.le_of_ble_eq_true rfl, Nat.le_of_ble_eq_true rfl⟩ rfl (rest := []) rfl (Nat.le_of_ble_eq_true rfl) dX7_announcedAt_12 (fun H locs hP hS => ?_)
  refine b_eq (tgt := 55) C dX7_announcedAt_15 (by decide) h (fun h => ?_) (fun h => ?_)
  · refine lv_iconst (v := (-1)) C.1 C.2.1 dX7_announcedAt_55 (by decide) ?_
    have e := Option.some.inj h
    exact q_i C hlk hP hS hr (by rw [← e]) rfl dX7_announcedAt_56
  · refine lv_iload_n C.1 C.2.1 dX7_announcedAt_18 rfl (lv_at hl 2 rfl) ?_
    refine lv_iconst (v := 0) C.1 C.2.1 dX7_announcedAt_19 (by decide) ?_
    refine lv_aload_n C.1 C.2.1 dX7_announcedAt_20 rfl (lv_at hl 0 rfl) ?_
    refine r_tF C hK hP hT cl_7 (k := 0) (by decide) wd_1144 rfl dX7_announcedAt_21 h (fun b4 h => ?_)
    refine lv_iload_n C.1 C.2.1 dX7_announcedAt_24 rfl (lv_at hl 1 rfl) ?_
    obtain ⟨r5, hc, h⟩ := bS h
    refine r_S1 C hK hX hb hP hS hl.1 (kX7_startOf hc) wd_1237 mo_X7_startOf wd_1238 ⟨Nat.le_of_ble_eq_true rfl, Nat.le_of_ble_eq_true rfl⟩ ⟨Nat.le_of_ble_eq_true rfl, Nat.le_of_ble_eq_true rfl⟩ rfl (rest := [.ref b4, .int 0, .int a2]) rfl (Nat.le_of_ble_eq_true rfl) dX7_announcedAt_25 (fun H locs hP hS => ?_)
    refine lv_iconst (v := 3) C.1 C.2.1 dX7_announcedAt_28 (by decide) ?_
    refine lv_iadd C.1 C.2.1 dX7_announcedAt_29 ?_
    refine r_aI C hK hP dX7_announcedAt_30 h (fun x6 h => ?_)
    refine lv_iconst (v := 1) C.1 C.2.1 dX7_announcedAt_31 (by decide) ?_
    refine lv_isub C.1 C.2.1 dX7_announcedAt_32 ?_
    obtain ⟨r7, hc, h⟩ := bS h
    refine r_S1 C hK hX hb hP hS hl.1 (kX7_in hc) wd_1194 mo_X7_in wd_1195 ⟨Nat.le_of_ble_eq_true rfl, Nat.le_of_ble_eq_true rfl⟩ ⟨Nat.le_of_ble_eq_true rfl, Nat.le_of_ble_eq_true rfl⟩ rfl (rest := []) rfl (Nat.le_of_ble_eq_true rfl) dX7_announcedAt_33 (fun H locs hP hS => ?_)
    refine b_eq (tgt := 55) C dX7_announcedAt_36 (by decide) h (fun h => ?_) (fun h => ?_)
    · refine lv_iconst (v := (-1)) C.1 C.2.1 dX7_announcedAt_55 (by decide) ?_
      have e := Option.some.inj h
      exact q_i C hlk hP hS hr (by rw [← e]) rfl dX7_announcedAt_56
    · refine lv_aload_n C.1 C.2.1 dX7_announcedAt_39 rfl (lv_at hl 0 rfl) ?_
      refine r_tF C hK hP hT cl_7 (k := 0) (by decide) wd_1144 rfl dX7_announcedAt_40 h (fun b8 h => ?_)
      refine lv_iload_n C.1 C.2.1 dX7_announcedAt_43 rfl (lv_at hl 1 rfl) ?_
      obtain ⟨r9, hc, h⟩ := bS h
      refine r_S1 C hK hX hb hP hS hl.1 (kX7_startOf hc) wd_1237 mo_X7_startOf wd_1238 ⟨Nat.le_of_ble_eq_true rfl, Nat.le_of_ble_eq_true rfl⟩ ⟨Nat.le_of_ble_eq_true rfl, Nat.le_of_ble_eq_true rfl⟩ rfl (rest := [.ref b8]) rfl (Nat.le_of_ble_eq_true rfl) dX7_announcedAt_44 (fun H locs hP hS => ?_)
      refine lv_iconst (v := 4) C.1 C.2.1 dX7_announcedAt_47 (by decide) ?_
      refine lv_iadd C.1 C.2.1 dX7_announcedAt_48 ?_
      refine lv_iload_n C.1 C.2.1 dX7_announcedAt_49 rfl (lv_at hl 2 rfl) ?_
      refine lv_iadd C.1 C.2.1 dX7_announcedAt_50 ?_
      refine r_aI C hK hP dX7_announcedAt_51 h (fun x10 h => ?_)
      refine lv_goto (tgt := 56) C.1 C.2.1 dX7_announcedAt_52 (by decide) ?_
      have e := Option.some.inj h
      exact q_i C hlk hP hS hr (by rw [← e]) rfl dX7_announcedAt_56
theorem dX7_announced_0 : decode cX7_announced 0 = .ok (.aload_n 0, 1) := by decide +kernel
theorem dX7_announced_1 : decode cX7_announced 1 = .ok (.iconst 0, 1) := by decide +kernel
theorem dX7_announced_2 : decode cX7_announced 2 = .ok (.putfield 29, 3) := by decide +kernel
theorem dX7_announced_5 : decode cX7_announced 5 = .ok (.aload_n 0, 1) := by decide +kernel
theorem dX7_announced_6 : decode cX7_announced 6 = .ok (.iload_n 1, 1) := by decide +kernel
theorem dX7_announced_7 : decode cX7_announced 7 = .ok (.iload_n 2, 1) := by decide +kernel
theorem dX7_announced_8 : decode cX7_announced 8 = .ok (.invokevirtual 185, 3) := by decide +kernel
theorem dX7_announced_11 : decode cX7_announced 11 = .ok (.ireturn, 1) := by decide +kernel
abbrev rmX7_announced : Room := { frames := 3, cells := 0, slots := 0, locals := 84 }
noncomputable def fX7_announced (n : Nat) (Sh : Sp) (M : Mm) (a0 : Nat) (a1 : Int32) (a2 : Int32) : Option (Int32 × Mm) :=
  qI M a0 5 0 fun M1 =>
  (fX7_announcedAt n Sh M1 a0 a1 a2).bind fun r2 =>
  some (r2, M1)
set_option maxRecDepth 100000 in
set_option maxHeartbeats 4000000 in
theorem kX7_announced {l : Launch} {G : Gt} {n : Nat} {Sh : Sp} {M : Mm} {a0 : Nat} {a1 : Int32} {a2 : Int32} (hT : Sh a0 = some (.inl 7)) {r : (Int32 × Mm)} (h : fX7_announced n Sh M a0 a1 a2 = some r) : Ct l yX7_announced cX7_announced 3 (some .int) rmX7_announced G Sh M [.ref a0, .int a1, .int a2] (some (.int r.1)) r.2 := by
  refine Ct.of (by decide) (Nat.le_of_ble_eq_true rfl) ?_
  intro p e s m args below meth c ls C hK hX hP hS hb hlk hr hl
  replace hl : lv_has ls 3 [(0, .ref a0), (1, .int a1), (2, .int a2)] := hl
  unfold fX7_announced at h
  refine lv_aload_n C.1 C.2.1 dX7_announced_0 rfl (lv_at hl 0 rfl) ?_
  refine lv_iconst (v := 0) C.1 C.2.1 dX7_announced_1 (by decide) ?_
  refine r_qI C hK hP hS hT cl_7 (k := 5) (by decide) wd_1149 rfl rfl (tyX7_ok 5 (by decide)) dX7_announced_2 h (fun M1 H locs h hP hS => ?_)
  refine lv_aload_n C.1 C.2.1 dX7_announced_5 rfl (lv_at hl 0 rfl) ?_
  refine lv_iload_n C.1 C.2.1 dX7_announced_6 rfl (lv_at hl 1 rfl) ?_
  refine lv_iload_n C.1 C.2.1 dX7_announced_7 rfl (lv_at hl 2 rfl) ?_
  obtain ⟨r2, hc, h⟩ := bS h
  refine r_V1 C hK hX hb hP hS hl.1 (kX7_announcedAt (hT) hc) hT cl_7 wd_1454 mo_X7_announcedAt wd_1456 wd_62 ⟨Nat.le_of_ble_eq_true rfl, Nat.le_of_ble_eq_true rfl⟩ ⟨Nat.le_of_ble_eq_true rfl, Nat.le_of_ble_eq_true rfl⟩ rfl (rest := []) rfl (Nat.le_of_ble_eq_true rfl) dX7_announced_8 (fun H locs hP hS => ?_)
  have e := Option.some.inj h
  exact q_i C hlk hP hS hr (by rw [← e]) (by rw [← e]) dX7_announced_11
theorem dX7_speak_0 : decode cX7_speak 0 = .ok (.aload_n 0, 1) := by decide +kernel
theorem dX7_speak_1 : decode cX7_speak 1 = .ok (.iconst 0, 1) := by decide +kernel
theorem dX7_speak_2 : decode cX7_speak 2 = .ok (.putfield 29, 3) := by decide +kernel
theorem dX7_speak_5 : decode cX7_speak 5 = .ok (.aload_n 0, 1) := by decide +kernel
theorem dX7_speak_6 : decode cX7_speak 6 = .ok (.invokevirtual 133, 3) := by decide +kernel
theorem dX7_speak_9 : decode cX7_speak 9 = .ok (.aload_n 0, 1) := by decide +kernel
theorem dX7_speak_10 : decode cX7_speak 10 = .ok (.getfield 7, 3) := by decide +kernel
theorem dX7_speak_13 : decode cX7_speak 13 = .ok (.sipush 720, 3) := by decide +kernel
theorem dX7_speak_16 : decode cX7_speak 16 = .ok (.iaload, 1) := by decide +kernel
theorem dX7_speak_17 : decode cX7_speak 17 = .ok (.ifCond .ne 5, 3) := by decide +kernel
theorem dX7_speak_20 : decode cX7_speak 20 = .ok (.iconst (-1), 1) := by decide +kernel
theorem dX7_speak_21 : decode cX7_speak 21 = .ok (.ireturn, 1) := by decide +kernel
theorem dX7_speak_22 : decode cX7_speak 22 = .ok (.aload_n 0, 1) := by decide +kernel
theorem dX7_speak_23 : decode cX7_speak 23 = .ok (.iconst 0, 1) := by decide +kernel
theorem dX7_speak_24 : decode cX7_speak 24 = .ok (.invokevirtual 104, 3) := by decide +kernel
theorem dX7_speak_27 : decode cX7_speak 27 = .ok (.istore_n 1, 1) := by decide +kernel
theorem dX7_speak_28 : decode cX7_speak 28 = .ok (.aload_n 0, 1) := by decide +kernel
theorem dX7_speak_29 : decode cX7_speak 29 = .ok (.getfield 7, 3) := by decide +kernel
theorem dX7_speak_32 : decode cX7_speak 32 = .ok (.sipush 3161, 3) := by decide +kernel
theorem dX7_speak_35 : decode cX7_speak 35 = .ok (.aload_n 0, 1) := by decide +kernel
theorem dX7_speak_36 : decode cX7_speak 36 = .ok (.getfield 7, 3) := by decide +kernel
theorem dX7_speak_39 : decode cX7_speak 39 = .ok (.iload_n 1, 1) := by decide +kernel
theorem dX7_speak_40 : decode cX7_speak 40 = .ok (.invokestatic 100, 3) := by decide +kernel
theorem dX7_speak_43 : decode cX7_speak 43 = .ok (.iconst 3, 1) := by decide +kernel
theorem dX7_speak_44 : decode cX7_speak 44 = .ok (.iadd, 1) := by decide +kernel
theorem dX7_speak_45 : decode cX7_speak 45 = .ok (.iaload, 1) := by decide +kernel
theorem dX7_speak_46 : decode cX7_speak 46 = .ok (.iastore, 1) := by decide +kernel
theorem dX7_speak_47 : decode cX7_speak 47 = .ok (.iconst 0, 1) := by decide +kernel
theorem dX7_speak_48 : decode cX7_speak 48 = .ok (.istore_n 2, 1) := by decide +kernel
theorem dX7_speak_49 : decode cX7_speak 49 = .ok (.iload_n 2, 1) := by decide +kernel
theorem dX7_speak_50 : decode cX7_speak 50 = .ok (.aload_n 0, 1) := by decide +kernel
theorem dX7_speak_51 : decode cX7_speak 51 = .ok (.getfield 7, 3) := by decide +kernel
theorem dX7_speak_54 : decode cX7_speak 54 = .ok (.sipush 3161, 3) := by decide +kernel
theorem dX7_speak_57 : decode cX7_speak 57 = .ok (.iaload, 1) := by decide +kernel
theorem dX7_speak_58 : decode cX7_speak 58 = .ok (.if_icmp .ge 32, 3) := by decide +kernel
theorem dX7_speak_61 : decode cX7_speak 61 = .ok (.aload_n 0, 1) := by decide +kernel
theorem dX7_speak_62 : decode cX7_speak 62 = .ok (.getfield 7, 3) := by decide +kernel
theorem dX7_speak_65 : decode cX7_speak 65 = .ok (.sipush 3162, 3) := by decide +kernel
theorem dX7_speak_68 : decode cX7_speak 68 = .ok (.iload_n 2, 1) := by decide +kernel
theorem dX7_speak_69 : decode cX7_speak 69 = .ok (.iadd, 1) := by decide +kernel
theorem dX7_speak_70 : decode cX7_speak 70 = .ok (.aload_n 0, 1) := by decide +kernel
theorem dX7_speak_71 : decode cX7_speak 71 = .ok (.getfield 7, 3) := by decide +kernel
theorem dX7_speak_74 : decode cX7_speak 74 = .ok (.iload_n 1, 1) := by decide +kernel
theorem dX7_speak_75 : decode cX7_speak 75 = .ok (.invokestatic 100, 3) := by decide +kernel
theorem dX7_speak_78 : decode cX7_speak 78 = .ok (.iconst 4, 1) := by decide +kernel
theorem dX7_speak_79 : decode cX7_speak 79 = .ok (.iadd, 1) := by decide +kernel
theorem dX7_speak_80 : decode cX7_speak 80 = .ok (.iload_n 2, 1) := by decide +kernel
theorem dX7_speak_81 : decode cX7_speak 81 = .ok (.iadd, 1) := by decide +kernel
theorem dX7_speak_82 : decode cX7_speak 82 = .ok (.iaload, 1) := by decide +kernel
theorem dX7_speak_83 : decode cX7_speak 83 = .ok (.iastore, 1) := by decide +kernel
theorem dX7_speak_84 : decode cX7_speak 84 = .ok (.iinc 2 1, 3) := by decide +kernel
theorem dX7_speak_87 : decode cX7_speak 87 = .ok (.goto (-38), 3) := by decide +kernel
theorem dX7_speak_90 : decode cX7_speak 90 = .ok (.aload_n 0, 1) := by decide +kernel
theorem dX7_speak_91 : decode cX7_speak 91 = .ok (.iload_n 1, 1) := by decide +kernel
theorem dX7_speak_92 : decode cX7_speak 92 = .ok (.invokevirtual 108, 3) := by decide +kernel
theorem dX7_speak_95 : decode cX7_speak 95 = .ok (.aload_n 0, 1) := by decide +kernel
theorem dX7_speak_96 : decode cX7_speak 96 = .ok (.getfield 7, 3) := by decide +kernel
theorem dX7_speak_99 : decode cX7_speak 99 = .ok (.sipush 3161, 3) := by decide +kernel
theorem dX7_speak_102 : decode cX7_speak 102 = .ok (.iaload, 1) := by decide +kernel
theorem dX7_speak_103 : decode cX7_speak 103 = .ok (.ireturn, 1) := by decide +kernel
abbrev rmX7_speak : Room := { frames := 3, cells := 0, slots := 0, locals := 84 }
noncomputable def fX7_speak_90 (n : Nat) (Sh : Sp) (a0 : Nat) (M : Mm) (v1 : Int32) : Option (Int32 × Mm) :=
  (fX7_drop n Sh M a0 v1).bind fun r1 =>
  tF r1 a0 0 fun b2 =>
  aI Sh r1 b2 0 3161 fun x3 =>
  some (x3, r1)
noncomputable def fX7_speak_49b (n : Nat) (Sh : Sp) (a0 : Nat) (M : Mm) (v1 : Int32) (v2 : Int32) : Option ((Int32 × Mm) ⊕ (Int32 × Mm)) :=
  tF M a0 0 fun b4 =>
  aI Sh M b4 0 3161 fun x5 =>
  if v2 < x5 then
    tF M a0 0 fun b6 =>
    tF M a0 0 fun b7 =>
    (fX7_startOf n Sh M v1).bind fun r8 =>
    aI Sh M b7 0 ((r8 + 4) + v2) fun x9 =>
    sI Sh M b6 (3162 + v2) x9 fun M10 =>
    some (Sum.inl ((v2 + 1), M10))
  else
    (fX7_speak_90 n Sh a0 M v1).map Sum.inr
noncomputable def fX7_speak_49 (n : Nat) (Sh : Sp) (a0 : Nat) (M : Mm) (v1 : Int32) (v2 : Int32) : Option (Int32 × Mm) :=
  iter n (fun s => fX7_speak_49b n Sh a0 s.2 v1 s.1) (v2, M)
noncomputable def fX7_speak (n : Nat) (Sh : Sp) (M : Mm) (a0 : Nat) : Option (Int32 × Mm) :=
  qI M a0 5 0 fun M11 =>
  (fX7_keep n Sh M11 a0).bind fun r12 =>
  tF r12 a0 0 fun b13 =>
  aI Sh r12 b13 0 720 fun x14 =>
  if x14 = 0 then
    some ((-1), r12)
  else
    (fX7_extreme n Sh r12 a0 0).bind fun r15 =>
    tF r12 a0 0 fun b16 =>
    tF r12 a0 0 fun b17 =>
    (fX7_startOf n Sh r12 r15).bind fun r18 =>
    aI Sh r12 b17 0 (r18 + 3) fun x19 =>
    sI Sh r12 b16 3161 x19 fun M20 =>
    fX7_speak_49 n Sh a0 M20 r15 0
set_option maxRecDepth 100000 in
set_option maxHeartbeats 4000000 in
theorem kX7_speak {l : Launch} {G : Gt} {n : Nat} {Sh : Sp} {M : Mm} {a0 : Nat} (hT : Sh a0 = some (.inl 7)) {r : (Int32 × Mm)} (h : fX7_speak n Sh M a0 = some r) : Ct l yX7_speak cX7_speak 3 (some .int) rmX7_speak G Sh M [.ref a0] (some (.int r.1)) r.2 := by
  refine Ct.of (by decide) (Nat.le_of_ble_eq_true rfl) ?_
  intro p e s m args below meth c ls C hK hX hP hS hb hlk hr hl
  replace hl : lv_has ls 3 [(0, .ref a0)] := hl
  have J90 : ∀ (M : Mm) (v1 : Int32) (H : Heap) (locs : List Loc) (ls : Array Slot), HM G Sh M H → SS G s s.heap.size H locs → lv_has ls 3 [(0, .ref a0), (1, .int v1)] → fX7_speak_90 n Sh a0 M v1 = some r → W p l e rmX7_speak s m args below meth c H locs 0 0 (MQ below (QG G Sh r.2 (some (.int r.1))) args s rmX7_speak.cells rmX7_speak.slots (AA G)) (F0 m 90 ls []) := by
    intro M v1 H locs ls hP hS hl h
    unfold fX7_speak_90 at h
    refine lv_aload_n C.1 C.2.1 dX7_speak_90 rfl (lv_at hl 0 rfl) ?_
    refine lv_iload_n C.1 C.2.1 dX7_speak_91 rfl (lv_at hl 1 rfl) ?_
    obtain ⟨r1, hc, h⟩ := bS h
    refine r_V0 C hK hX hb hP hS hl.1 (kX7_drop (hT) hc) hT cl_7 wd_1240 mo_X7_drop wd_1242 wd_33 ⟨Nat.le_of_ble_eq_true rfl, Nat.le_of_ble_eq_true rfl⟩ ⟨Nat.le_of_ble_eq_true rfl, Nat.le_of_ble_eq_true rfl⟩ rfl (rest := []) rfl (Nat.le_of_ble_eq_true rfl) dX7_speak_92 (fun H locs hP hS => ?_)
    refine lv_aload_n C.1 C.2.1 dX7_speak_95 rfl (lv_at hl 0 rfl) ?_
    refine r_tF C hK hP hT cl_7 (k := 0) (by decide) wd_1144 rfl dX7_speak_96 h (fun b2 h => ?_)
    refine lv_sipush (v := 3161) C.1 C.2.1 dX7_speak_99 (by decide) ?_
    refine r_aI C hK hP dX7_speak_102 h (fun x3 h => ?_)
    have e := Option.some.inj h
    exact q_i C hlk hP hS hr (by rw [← e]) (by rw [← e]) dX7_speak_103
  have J49 : ∀ (v1 : Int32), ∀ (k : Nat) (v2 : Int32) (M : Mm) (H : Heap) (locs : List Loc) (ls : Array Slot), HM G Sh M H → SS G s s.heap.size H locs → lv_has ls 3 [(0, .ref a0), (1, .int v1), (2, .int v2)] → iter k (fun s => fX7_speak_49b n Sh a0 s.2 v1 s.1) (v2, M) = some r → W p l e rmX7_speak s m args below meth c H locs 0 0 (MQ below (QG G Sh r.2 (some (.int r.1))) args s rmX7_speak.cells rmX7_speak.slots (AA G)) (F0 m 49 ls []) := by
    intro v1 k
    induction k with
    | zero => intro v2 M H locs ls hP hS hl h; exact (iter_0 h).elim
    | succ k ih1 =>
      intro v2 M H locs ls hP hS hl h
      obtain ⟨z1, h, hz1⟩ := iter_some h
      replace h : fX7_speak_49b n Sh a0 M v1 v2 = some z1 := h
      unfold fX7_speak_49b at h
      refine lv_iload_n C.1 C.2.1 dX7_speak_49 rfl (lv_at hl 2 rfl) ?_
      refine lv_aload_n C.1 C.2.1 dX7_speak_50 rfl (lv_at hl 0 rfl) ?_
      refine r_tF C hK hP hT cl_7 (k := 0) (by decide) wd_1144 rfl dX7_speak_51 h (fun b4 h => ?_)
      refine lv_sipush (v := 3161) C.1 C.2.1 dX7_speak_54 (by decide) ?_
      refine r_aI C hK hP dX7_speak_57 h (fun x5 h => ?_)
      refine b_ige (tgt := 90) C dX7_speak_58 (by decide) h (fun h => ?_) (fun h => ?_)
      · refine lv_aload_n C.1 C.2.1 dX7_speak_61 rfl (lv_at hl 0 rfl) ?_
        refine r_tF C hK hP hT cl_7 (k := 0) (by decide) wd_1144 rfl dX7_speak_62 h (fun b6 h => ?_)
        refine lv_sipush (v := 3162) C.1 C.2.1 dX7_speak_65 (by decide) ?_
        refine lv_iload_n C.1 C.2.1 dX7_speak_68 rfl (lv_at hl 2 rfl) ?_
        refine lv_iadd C.1 C.2.1 dX7_speak_69 ?_
        refine lv_aload_n C.1 C.2.1 dX7_speak_70 rfl (lv_at hl 0 rfl) ?_
        refine r_tF C hK hP hT cl_7 (k := 0) (by decide) wd_1144 rfl dX7_speak_71 h (fun b7 h => ?_)
        refine lv_iload_n C.1 C.2.1 dX7_speak_74 rfl (lv_at hl 1 rfl) ?_
        obtain ⟨r8, hc, h⟩ := bS h
        refine r_S1 C hK hX hb hP hS hl.1 (kX7_startOf hc) wd_1237 mo_X7_startOf wd_1238 ⟨Nat.le_of_ble_eq_true rfl, Nat.le_of_ble_eq_true rfl⟩ ⟨Nat.le_of_ble_eq_true rfl, Nat.le_of_ble_eq_true rfl⟩ rfl (rest := [.ref b7, .int (3162 + v2), .ref b6]) rfl (Nat.le_of_ble_eq_true rfl) dX7_speak_75 (fun H locs hP hS => ?_)
        refine lv_iconst (v := 4) C.1 C.2.1 dX7_speak_78 (by decide) ?_
        refine lv_iadd C.1 C.2.1 dX7_speak_79 ?_
        refine lv_iload_n C.1 C.2.1 dX7_speak_80 rfl (lv_at hl 2 rfl) ?_
        refine lv_iadd C.1 C.2.1 dX7_speak_81 ?_
        refine r_aI C hK hP dX7_speak_82 h (fun x9 h => ?_)
        refine r_sI C hK hP hS dX7_speak_83 h (fun M10 H locs h hP hS => ?_)
        refine lv_iinc (v := (v2 + 1)) (lv' := [(2, .int (v2 + 1)), (0, .ref a0), (1, .int v1)]) C.1 C.2.1 dX7_speak_84 hl (k := 2) rfl rfl (by decide) rfl (fun ls hl => ?_)
        refine lv_goto (tgt := 49) C.1 C.2.1 dX7_speak_87 (by decide) ?_
        have e := Option.some.inj h
        rw [← e] at hz1
        exact ih1 ((v2 + 1)) M10 _ _ _ hP hS (lv_sub hl [1, 2, 0] rfl) (itK_inl hz1)
      · obtain ⟨w1, h, e⟩ := mS h
        rw [← e] at hz1
        replace e := itK_inr hz1
        rw [e] at h
        exact J90 (M) (v1) _ _ _ hP hS (lv_sub hl [0, 1] rfl) h
  unfold fX7_speak at h
  refine lv_aload_n C.1 C.2.1 dX7_speak_0 rfl (lv_at hl 0 rfl) ?_
  refine lv_iconst (v := 0) C.1 C.2.1 dX7_speak_1 (by decide) ?_
  refine r_qI C hK hP hS hT cl_7 (k := 5) (by decide) wd_1149 rfl rfl (tyX7_ok 5 (by decide)) dX7_speak_2 h (fun M11 H locs h hP hS => ?_)
  refine lv_aload_n C.1 C.2.1 dX7_speak_5 rfl (lv_at hl 0 rfl) ?_
  obtain ⟨r12, hc, h⟩ := bS h
  refine r_V0 C hK hX hb hP hS hl.1 (kX7_keep (hT) hc) hT cl_7 wd_1209 mo_X7_keep wd_1211 wd_27 ⟨Nat.le_of_ble_eq_true rfl, Nat.le_of_ble_eq_true rfl⟩ ⟨Nat.le_of_ble_eq_true rfl, Nat.le_of_ble_eq_true rfl⟩ rfl (rest := []) rfl (Nat.le_of_ble_eq_true rfl) dX7_speak_6 (fun H locs hP hS => ?_)
  refine lv_aload_n C.1 C.2.1 dX7_speak_9 rfl (lv_at hl 0 rfl) ?_
  refine r_tF C hK hP hT cl_7 (k := 0) (by decide) wd_1144 rfl dX7_speak_10 h (fun b13 h => ?_)
  refine lv_sipush (v := 720) C.1 C.2.1 dX7_speak_13 (by decide) ?_
  refine r_aI C hK hP dX7_speak_16 h (fun x14 h => ?_)
  refine b_ne (tgt := 22) C dX7_speak_17 (by decide) h (fun h => ?_) (fun h => ?_)
  · refine lv_iconst (v := (-1)) C.1 C.2.1 dX7_speak_20 (by decide) ?_
    have e := Option.some.inj h
    exact q_i C hlk hP hS hr (by rw [← e]) (by rw [← e]) dX7_speak_21
  · refine lv_aload_n C.1 C.2.1 dX7_speak_22 rfl (lv_at hl 0 rfl) ?_
    refine lv_iconst (v := 0) C.1 C.2.1 dX7_speak_23 (by decide) ?_
    obtain ⟨r15, hc, h⟩ := bS h
    refine r_V1 C hK hX hb hP hS hl.1 (kX7_extreme (hT) hc) hT cl_7 wd_1350 mo_X7_extreme wd_1352 wd_54 ⟨Nat.le_of_ble_eq_true rfl, Nat.le_of_ble_eq_true rfl⟩ ⟨Nat.le_of_ble_eq_true rfl, Nat.le_of_ble_eq_true rfl⟩ rfl (rest := []) rfl (Nat.le_of_ble_eq_true rfl) dX7_speak_24 (fun H locs hP hS => ?_)
    refine lv_istore_n (lv' := [(1, .int r15), (0, .ref a0)]) C.1 C.2.1 dX7_speak_27 rfl hl (by decide) rfl (fun ls hl => ?_)
    refine lv_aload_n C.1 C.2.1 dX7_speak_28 rfl (lv_at hl 1 rfl) ?_
    refine r_tF C hK hP hT cl_7 (k := 0) (by decide) wd_1144 rfl dX7_speak_29 h (fun b16 h => ?_)
    refine lv_sipush (v := 3161) C.1 C.2.1 dX7_speak_32 (by decide) ?_
    refine lv_aload_n C.1 C.2.1 dX7_speak_35 rfl (lv_at hl 1 rfl) ?_
    refine r_tF C hK hP hT cl_7 (k := 0) (by decide) wd_1144 rfl dX7_speak_36 h (fun b17 h => ?_)
    refine lv_iload_n C.1 C.2.1 dX7_speak_39 rfl (lv_at hl 0 rfl) ?_
    obtain ⟨r18, hc, h⟩ := bS h
    refine r_S1 C hK hX hb hP hS hl.1 (kX7_startOf hc) wd_1237 mo_X7_startOf wd_1238 ⟨Nat.le_of_ble_eq_true rfl, Nat.le_of_ble_eq_true rfl⟩ ⟨Nat.le_of_ble_eq_true rfl, Nat.le_of_ble_eq_true rfl⟩ rfl (rest := [.ref b17, .int 3161, .ref b16]) rfl (Nat.le_of_ble_eq_true rfl) dX7_speak_40 (fun H locs hP hS => ?_)
    refine lv_iconst (v := 3) C.1 C.2.1 dX7_speak_43 (by decide) ?_
    refine lv_iadd C.1 C.2.1 dX7_speak_44 ?_
    refine r_aI C hK hP dX7_speak_45 h (fun x19 h => ?_)
    refine r_sI C hK hP hS dX7_speak_46 h (fun M20 H locs h hP hS => ?_)
    refine lv_iconst (v := 0) C.1 C.2.1 dX7_speak_47 (by decide) ?_
    refine lv_istore_n (lv' := [(2, .int 0), (1, .int r15), (0, .ref a0)]) C.1 C.2.1 dX7_speak_48 rfl hl (by decide) rfl (fun ls hl => ?_)
    exact J49 (r15) n (0) M20 _ _ _ hP hS (lv_sub hl [2, 1, 0] rfl) h
theorem dX7_spoken_0 : decode cX7_spoken 0 = .ok (.aload_n 0, 1) := by decide +kernel
theorem dX7_spoken_1 : decode cX7_spoken 1 = .ok (.iconst 0, 1) := by decide +kernel
theorem dX7_spoken_2 : decode cX7_spoken 2 = .ok (.putfield 29, 3) := by decide +kernel
theorem dX7_spoken_5 : decode cX7_spoken 5 = .ok (.iload_n 1, 1) := by decide +kernel
theorem dX7_spoken_6 : decode cX7_spoken 6 = .ok (.iconst 0, 1) := by decide +kernel
theorem dX7_spoken_7 : decode cX7_spoken 7 = .ok (.aload_n 0, 1) := by decide +kernel
theorem dX7_spoken_8 : decode cX7_spoken 8 = .ok (.getfield 7, 3) := by decide +kernel
theorem dX7_spoken_11 : decode cX7_spoken 11 = .ok (.sipush 3161, 3) := by decide +kernel
theorem dX7_spoken_14 : decode cX7_spoken 14 = .ok (.iaload, 1) := by decide +kernel
theorem dX7_spoken_15 : decode cX7_spoken 15 = .ok (.iconst 1, 1) := by decide +kernel
theorem dX7_spoken_16 : decode cX7_spoken 16 = .ok (.isub, 1) := by decide +kernel
theorem dX7_spoken_17 : decode cX7_spoken 17 = .ok (.invokestatic 36, 3) := by decide +kernel
theorem dX7_spoken_20 : decode cX7_spoken 20 = .ok (.ifCond .eq 16, 3) := by decide +kernel
theorem dX7_spoken_23 : decode cX7_spoken 23 = .ok (.aload_n 0, 1) := by decide +kernel
theorem dX7_spoken_24 : decode cX7_spoken 24 = .ok (.getfield 7, 3) := by decide +kernel
theorem dX7_spoken_27 : decode cX7_spoken 27 = .ok (.sipush 3162, 3) := by decide +kernel
theorem dX7_spoken_30 : decode cX7_spoken 30 = .ok (.iload_n 1, 1) := by decide +kernel
theorem dX7_spoken_31 : decode cX7_spoken 31 = .ok (.iadd, 1) := by decide +kernel
theorem dX7_spoken_32 : decode cX7_spoken 32 = .ok (.iaload, 1) := by decide +kernel
theorem dX7_spoken_33 : decode cX7_spoken 33 = .ok (.goto 4, 3) := by decide +kernel
theorem dX7_spoken_36 : decode cX7_spoken 36 = .ok (.iconst (-1), 1) := by decide +kernel
theorem dX7_spoken_37 : decode cX7_spoken 37 = .ok (.ireturn, 1) := by decide +kernel
abbrev rmX7_spoken : Room := { frames := 2, cells := 0, slots := 0, locals := 62 }
noncomputable def fX7_spoken (n : Nat) (Sh : Sp) (M : Mm) (a0 : Nat) (a1 : Int32) : Option (Int32 × Mm) :=
  qI M a0 5 0 fun M1 =>
  tF M1 a0 0 fun b2 =>
  aI Sh M1 b2 0 3161 fun x3 =>
  (fX7_in n Sh M1 a1 0 (x3 - 1)).bind fun r4 =>
  if r4 = 0 then
    some ((-1), M1)
  else
    tF M1 a0 0 fun b5 =>
    aI Sh M1 b5 0 (3162 + a1) fun x6 =>
    some (x6, M1)
set_option maxRecDepth 100000 in
set_option maxHeartbeats 4000000 in
theorem kX7_spoken {l : Launch} {G : Gt} {n : Nat} {Sh : Sp} {M : Mm} {a0 : Nat} {a1 : Int32} (hT : Sh a0 = some (.inl 7)) {r : (Int32 × Mm)} (h : fX7_spoken n Sh M a0 a1 = some r) : Ct l yX7_spoken cX7_spoken 2 (some .int) rmX7_spoken G Sh M [.ref a0, .int a1] (some (.int r.1)) r.2 := by
  refine Ct.of (by decide) (Nat.le_of_ble_eq_true rfl) ?_
  intro p e s m args below meth c ls C hK hX hP hS hb hlk hr hl
  replace hl : lv_has ls 2 [(0, .ref a0), (1, .int a1)] := hl
  unfold fX7_spoken at h
  refine lv_aload_n C.1 C.2.1 dX7_spoken_0 rfl (lv_at hl 0 rfl) ?_
  refine lv_iconst (v := 0) C.1 C.2.1 dX7_spoken_1 (by decide) ?_
  refine r_qI C hK hP hS hT cl_7 (k := 5) (by decide) wd_1149 rfl rfl (tyX7_ok 5 (by decide)) dX7_spoken_2 h (fun M1 H locs h hP hS => ?_)
  refine lv_iload_n C.1 C.2.1 dX7_spoken_5 rfl (lv_at hl 1 rfl) ?_
  refine lv_iconst (v := 0) C.1 C.2.1 dX7_spoken_6 (by decide) ?_
  refine lv_aload_n C.1 C.2.1 dX7_spoken_7 rfl (lv_at hl 0 rfl) ?_
  refine r_tF C hK hP hT cl_7 (k := 0) (by decide) wd_1144 rfl dX7_spoken_8 h (fun b2 h => ?_)
  refine lv_sipush (v := 3161) C.1 C.2.1 dX7_spoken_11 (by decide) ?_
  refine r_aI C hK hP dX7_spoken_14 h (fun x3 h => ?_)
  refine lv_iconst (v := 1) C.1 C.2.1 dX7_spoken_15 (by decide) ?_
  refine lv_isub C.1 C.2.1 dX7_spoken_16 ?_
  obtain ⟨r4, hc, h⟩ := bS h
  refine r_S1 C hK hX hb hP hS hl.1 (kX7_in hc) wd_1194 mo_X7_in wd_1195 ⟨Nat.le_of_ble_eq_true rfl, Nat.le_of_ble_eq_true rfl⟩ ⟨Nat.le_of_ble_eq_true rfl, Nat.le_of_ble_eq_true rfl⟩ rfl (rest := []) rfl (Nat.le_of_ble_eq_true rfl) dX7_spoken_17 (fun H locs hP hS => ?_)
  refine b_eq (tgt := 36) C dX7_spoken_20 (by decide) h (fun h => ?_) (fun h => ?_)
  · refine lv_iconst (v := (-1)) C.1 C.2.1 dX7_spoken_36 (by decide) ?_
    have e := Option.some.inj h
    exact q_i C hlk hP hS hr (by rw [← e]) (by rw [← e]) dX7_spoken_37
  · refine lv_aload_n C.1 C.2.1 dX7_spoken_23 rfl (lv_at hl 0 rfl) ?_
    refine r_tF C hK hP hT cl_7 (k := 0) (by decide) wd_1144 rfl dX7_spoken_24 h (fun b5 h => ?_)
    refine lv_sipush (v := 3162) C.1 C.2.1 dX7_spoken_27 (by decide) ?_
    refine lv_iload_n C.1 C.2.1 dX7_spoken_30 rfl (lv_at hl 1 rfl) ?_
    refine lv_iadd C.1 C.2.1 dX7_spoken_31 ?_
    refine r_aI C hK hP dX7_spoken_32 h (fun x6 h => ?_)
    refine lv_goto (tgt := 37) C.1 C.2.1 dX7_spoken_33 (by decide) ?_
    have e := Option.some.inj h
    exact q_i C hlk hP hS hr (by rw [← e]) (by rw [← e]) dX7_spoken_37
theorem dX7_silence_0 : decode cX7_silence 0 = .ok (.aload_n 0, 1) := by decide +kernel
theorem dX7_silence_1 : decode cX7_silence 1 = .ok (.iconst 0, 1) := by decide +kernel
theorem dX7_silence_2 : decode cX7_silence 2 = .ok (.putfield 29, 3) := by decide +kernel
theorem dX7_silence_5 : decode cX7_silence 5 = .ok (.aload_n 0, 1) := by decide +kernel
theorem dX7_silence_6 : decode cX7_silence 6 = .ok (.invokevirtual 133, 3) := by decide +kernel
theorem dX7_silence_9 : decode cX7_silence 9 = .ok (.aload_n 0, 1) := by decide +kernel
theorem dX7_silence_10 : decode cX7_silence 10 = .ok (.getfield 7, 3) := by decide +kernel
theorem dX7_silence_13 : decode cX7_silence 13 = .ok (.sipush 720, 3) := by decide +kernel
theorem dX7_silence_16 : decode cX7_silence 16 = .ok (.iaload, 1) := by decide +kernel
theorem dX7_silence_17 : decode cX7_silence 17 = .ok (.istore_n 1, 1) := by decide +kernel
theorem dX7_silence_18 : decode cX7_silence 18 = .ok (.aload_n 0, 1) := by decide +kernel
theorem dX7_silence_19 : decode cX7_silence 19 = .ok (.getfield 7, 3) := by decide +kernel
theorem dX7_silence_22 : decode cX7_silence 22 = .ok (.sipush 720, 3) := by decide +kernel
theorem dX7_silence_25 : decode cX7_silence 25 = .ok (.iconst 0, 1) := by decide +kernel
theorem dX7_silence_26 : decode cX7_silence 26 = .ok (.iastore, 1) := by decide +kernel
theorem dX7_silence_27 : decode cX7_silence 27 = .ok (.iload_n 1, 1) := by decide +kernel
theorem dX7_silence_28 : decode cX7_silence 28 = .ok (.ireturn, 1) := by decide +kernel
abbrev rmX7_silence : Room := { frames := 2, cells := 0, slots := 0, locals := 61 }
noncomputable def fX7_silence (n : Nat) (Sh : Sp) (M : Mm) (a0 : Nat) : Option (Int32 × Mm) :=
  qI M a0 5 0 fun M1 =>
  (fX7_keep n Sh M1 a0).bind fun r2 =>
  tF r2 a0 0 fun b3 =>
  aI Sh r2 b3 0 720 fun x4 =>
  tF r2 a0 0 fun b5 =>
  sI Sh r2 b5 720 0 fun M6 =>
  some (x4, M6)
set_option maxRecDepth 100000 in
set_option maxHeartbeats 4000000 in
theorem kX7_silence {l : Launch} {G : Gt} {n : Nat} {Sh : Sp} {M : Mm} {a0 : Nat} (hT : Sh a0 = some (.inl 7)) {r : (Int32 × Mm)} (h : fX7_silence n Sh M a0 = some r) : Ct l yX7_silence cX7_silence 2 (some .int) rmX7_silence G Sh M [.ref a0] (some (.int r.1)) r.2 := by
  refine Ct.of (by decide) (Nat.le_of_ble_eq_true rfl) ?_
  intro p e s m args below meth c ls C hK hX hP hS hb hlk hr hl
  replace hl : lv_has ls 2 [(0, .ref a0)] := hl
  unfold fX7_silence at h
  refine lv_aload_n C.1 C.2.1 dX7_silence_0 rfl (lv_at hl 0 rfl) ?_
  refine lv_iconst (v := 0) C.1 C.2.1 dX7_silence_1 (by decide) ?_
  refine r_qI C hK hP hS hT cl_7 (k := 5) (by decide) wd_1149 rfl rfl (tyX7_ok 5 (by decide)) dX7_silence_2 h (fun M1 H locs h hP hS => ?_)
  refine lv_aload_n C.1 C.2.1 dX7_silence_5 rfl (lv_at hl 0 rfl) ?_
  obtain ⟨r2, hc, h⟩ := bS h
  refine r_V0 C hK hX hb hP hS hl.1 (kX7_keep (hT) hc) hT cl_7 wd_1209 mo_X7_keep wd_1211 wd_27 ⟨Nat.le_of_ble_eq_true rfl, Nat.le_of_ble_eq_true rfl⟩ ⟨Nat.le_of_ble_eq_true rfl, Nat.le_of_ble_eq_true rfl⟩ rfl (rest := []) rfl (Nat.le_of_ble_eq_true rfl) dX7_silence_6 (fun H locs hP hS => ?_)
  refine lv_aload_n C.1 C.2.1 dX7_silence_9 rfl (lv_at hl 0 rfl) ?_
  refine r_tF C hK hP hT cl_7 (k := 0) (by decide) wd_1144 rfl dX7_silence_10 h (fun b3 h => ?_)
  refine lv_sipush (v := 720) C.1 C.2.1 dX7_silence_13 (by decide) ?_
  refine r_aI C hK hP dX7_silence_16 h (fun x4 h => ?_)
  refine lv_istore_n (lv' := [(1, .int x4), (0, .ref a0)]) C.1 C.2.1 dX7_silence_17 rfl hl (by decide) rfl (fun ls hl => ?_)
  refine lv_aload_n C.1 C.2.1 dX7_silence_18 rfl (lv_at hl 1 rfl) ?_
  refine r_tF C hK hP hT cl_7 (k := 0) (by decide) wd_1144 rfl dX7_silence_19 h (fun b5 h => ?_)
  refine lv_sipush (v := 720) C.1 C.2.1 dX7_silence_22 (by decide) ?_
  refine lv_iconst (v := 0) C.1 C.2.1 dX7_silence_25 (by decide) ?_
  refine r_sI C hK hP hS dX7_silence_26 h (fun M6 H locs h hP hS => ?_)
  refine lv_iload_n C.1 C.2.1 dX7_silence_27 rfl (lv_at hl 0 rfl) ?_
  have e := Option.some.inj h
  exact q_i C hlk hP hS hr (by rw [← e]) (by rw [← e]) dX7_silence_28
theorem dX7_isCellRole_0 : decode cX7_isCellRole 0 = .ok (.aload_n 0, 1) := by decide +kernel
theorem dX7_isCellRole_1 : decode cX7_isCellRole 1 = .ok (.iload_n 1, 1) := by decide +kernel
theorem dX7_isCellRole_2 : decode cX7_isCellRole 2 = .ok (.iconst 3, 1) := by decide +kernel
theorem dX7_isCellRole_3 : decode cX7_isCellRole 3 = .ok (.invokevirtual 40, 3) := by decide +kernel
theorem dX7_isCellRole_6 : decode cX7_isCellRole 6 = .ok (.bipush 9, 2) := by decide +kernel
theorem dX7_isCellRole_8 : decode cX7_isCellRole 8 = .ok (.if_icmp .eq 14, 3) := by decide +kernel
theorem dX7_isCellRole_11 : decode cX7_isCellRole 11 = .ok (.aload_n 0, 1) := by decide +kernel
theorem dX7_isCellRole_12 : decode cX7_isCellRole 12 = .ok (.iload_n 1, 1) := by decide +kernel
theorem dX7_isCellRole_13 : decode cX7_isCellRole 13 = .ok (.iconst 3, 1) := by decide +kernel
theorem dX7_isCellRole_14 : decode cX7_isCellRole 14 = .ok (.invokevirtual 40, 3) := by decide +kernel
theorem dX7_isCellRole_17 : decode cX7_isCellRole 17 = .ok (.bipush 10, 2) := by decide +kernel
theorem dX7_isCellRole_19 : decode cX7_isCellRole 19 = .ok (.if_icmp .ne 7, 3) := by decide +kernel
theorem dX7_isCellRole_22 : decode cX7_isCellRole 22 = .ok (.iconst 1, 1) := by decide +kernel
theorem dX7_isCellRole_23 : decode cX7_isCellRole 23 = .ok (.goto 4, 3) := by decide +kernel
theorem dX7_isCellRole_26 : decode cX7_isCellRole 26 = .ok (.iconst 0, 1) := by decide +kernel
theorem dX7_isCellRole_27 : decode cX7_isCellRole 27 = .ok (.ireturn, 1) := by decide +kernel
abbrev rmX7_isCellRole : Room := { frames := 2, cells := 0, slots := 0, locals := 62 }
noncomputable def fX7_isCellRole_22 (n : Nat) (Sh : Sp) (M : Mm) (a0 : Nat) (a1 : Int32) : Option Int32 :=
  some 1
noncomputable def fX7_isCellRole (n : Nat) (Sh : Sp) (M : Mm) (a0 : Nat) (a1 : Int32) : Option Int32 :=
  (fX7_of n Sh M a0 a1 3).bind fun r1 =>
  if r1 = 9 then
    fX7_isCellRole_22 n Sh M a0 a1
  else
    (fX7_of n Sh M a0 a1 3).bind fun r2 =>
    if r2 = 10 then
      fX7_isCellRole_22 n Sh M a0 a1
    else
      some 0
set_option maxRecDepth 100000 in
set_option maxHeartbeats 4000000 in
theorem kX7_isCellRole {l : Launch} {G : Gt} {n : Nat} {Sh : Sp} {M : Mm} {a0 : Nat} {a1 : Int32} (hT : Sh a0 = some (.inl 7)) {r : Int32} (h : fX7_isCellRole n Sh M a0 a1 = some r) : Ct l yX7_isCellRole cX7_isCellRole 2 (some .boolean) rmX7_isCellRole G Sh M [.ref a0, .int a1] (some (.int r)) M := by
  refine Ct.of (by decide) (Nat.le_of_ble_eq_true rfl) ?_
  intro p e s m args below meth c ls C hK hX hP hS hb hlk hr hl
  replace hl : lv_has ls 2 [(0, .ref a0), (1, .int a1)] := hl
  have J22 : ∀ (H : Heap) (locs : List Loc) (ls : Array Slot), HM G Sh M H → SS G s s.heap.size H locs → lv_has ls 2 [(0, .ref a0), (1, .int a1)] → fX7_isCellRole_22 n Sh M a0 a1 = some r → W p l e rmX7_isCellRole s m args below meth c H locs 0 0 (MQ below (QG G Sh M (some (.int r))) args s rmX7_isCellRole.cells rmX7_isCellRole.slots (AA G)) (F0 m 22 ls []) := by
    intro  H locs ls hP hS hl h
    unfold fX7_isCellRole_22 at h
    refine lv_iconst (v := 1) C.1 C.2.1 dX7_isCellRole_22 (by decide) ?_
    refine lv_goto (tgt := 27) C.1 C.2.1 dX7_isCellRole_23 (by decide) ?_
    have e := Option.some.inj h
    exact q_z C hlk hP hS hr (by decide) (by rw [← e]) rfl dX7_isCellRole_27
  unfold fX7_isCellRole at h
  refine lv_aload_n C.1 C.2.1 dX7_isCellRole_0 rfl (lv_at hl 0 rfl) ?_
  refine lv_iload_n C.1 C.2.1 dX7_isCellRole_1 rfl (lv_at hl 1 rfl) ?_
  refine lv_iconst (v := 3) C.1 C.2.1 dX7_isCellRole_2 (by decide) ?_
  obtain ⟨r1, hc, h⟩ := bS h
  refine r_V1 C hK hX hb hP hS hl.1 (kX7_of (hT) hc) hT cl_7 wd_1197 mo_X7_of wd_1199 wd_24 ⟨Nat.le_of_ble_eq_true rfl, Nat.le_of_ble_eq_true rfl⟩ ⟨Nat.le_of_ble_eq_true rfl, Nat.le_of_ble_eq_true rfl⟩ rfl (rest := []) rfl (Nat.le_of_ble_eq_true rfl) dX7_isCellRole_3 (fun H locs hP hS => ?_)
  refine lv_bipush (v := 9) C.1 C.2.1 dX7_isCellRole_6 (by decide) ?_
  refine b_ieq (tgt := 22) C dX7_isCellRole_8 (by decide) h (fun h => ?_) (fun h => ?_)
  · exact J22  _ _ _ hP hS (lv_sub hl [0, 1] rfl) h
  · refine lv_aload_n C.1 C.2.1 dX7_isCellRole_11 rfl (lv_at hl 0 rfl) ?_
    refine lv_iload_n C.1 C.2.1 dX7_isCellRole_12 rfl (lv_at hl 1 rfl) ?_
    refine lv_iconst (v := 3) C.1 C.2.1 dX7_isCellRole_13 (by decide) ?_
    obtain ⟨r2, hc, h⟩ := bS h
    refine r_V1 C hK hX hb hP hS hl.1 (kX7_of (hT) hc) hT cl_7 wd_1197 mo_X7_of wd_1199 wd_24 ⟨Nat.le_of_ble_eq_true rfl, Nat.le_of_ble_eq_true rfl⟩ ⟨Nat.le_of_ble_eq_true rfl, Nat.le_of_ble_eq_true rfl⟩ rfl (rest := []) rfl (Nat.le_of_ble_eq_true rfl) dX7_isCellRole_14 (fun H locs hP hS => ?_)
    refine lv_bipush (v := 10) C.1 C.2.1 dX7_isCellRole_17 (by decide) ?_
    refine b_ine (tgt := 26) C dX7_isCellRole_19 (by decide) h (fun h => ?_) (fun h => ?_)
    · exact J22  _ _ _ hP hS (lv_sub hl [0, 1] rfl) h
    · refine lv_iconst (v := 0) C.1 C.2.1 dX7_isCellRole_26 (by decide) ?_
      have e := Option.some.inj h
      exact q_z C hlk hP hS hr (by decide) (by rw [← e]) rfl dX7_isCellRole_27
