theorem dX7_type_0 : decode cX7_type 0 = .ok (.aload_n 0, 1) := by decide +kernel
theorem dX7_type_1 : decode cX7_type 1 = .ok (.iload_n 1, 1) := by decide +kernel
theorem dX7_type_2 : decode cX7_type 2 = .ok (.bipush 33, 2) := by decide +kernel
theorem dX7_type_4 : decode cX7_type 4 = .ok (.bipush 126, 2) := by decide +kernel
theorem dX7_type_6 : decode cX7_type 6 = .ok (.invokestatic 36, 3) := by decide +kernel
theorem dX7_type_9 : decode cX7_type 9 = .ok (.ifCond .ne 7, 3) := by decide +kernel
theorem dX7_type_12 : decode cX7_type 12 = .ok (.iconst 1, 1) := by decide +kernel
theorem dX7_type_13 : decode cX7_type 13 = .ok (.goto 17, 3) := by decide +kernel
theorem dX7_type_16 : decode cX7_type 16 = .ok (.aload_n 0, 1) := by decide +kernel
theorem dX7_type_17 : decode cX7_type 17 = .ok (.getfield 158, 3) := by decide +kernel
theorem dX7_type_20 : decode cX7_type 20 = .ok (.bipush 8, 2) := by decide +kernel
theorem dX7_type_22 : decode cX7_type 22 = .ok (.if_icmp .ne 7, 3) := by decide +kernel
theorem dX7_type_25 : decode cX7_type 25 = .ok (.iconst 2, 1) := by decide +kernel
theorem dX7_type_26 : decode cX7_type 26 = .ok (.goto 4, 3) := by decide +kernel
theorem dX7_type_29 : decode cX7_type 29 = .ok (.iconst 0, 1) := by decide +kernel
theorem dX7_type_30 : decode cX7_type 30 = .ok (.putfield 29, 3) := by decide +kernel
theorem dX7_type_33 : decode cX7_type 33 = .ok (.aload_n 0, 1) := by decide +kernel
theorem dX7_type_34 : decode cX7_type 34 = .ok (.getfield 29, 3) := by decide +kernel
theorem dX7_type_37 : decode cX7_type 37 = .ok (.ifCond .eq 5, 3) := by decide +kernel
theorem dX7_type_40 : decode cX7_type 40 = .ok (.iconst 0, 1) := by decide +kernel
theorem dX7_type_41 : decode cX7_type 41 = .ok (.ireturn, 1) := by decide +kernel
theorem dX7_type_42 : decode cX7_type 42 = .ok (.aload_n 0, 1) := by decide +kernel
theorem dX7_type_43 : decode cX7_type 43 = .ok (.getfield 16, 3) := by decide +kernel
theorem dX7_type_46 : decode cX7_type 46 = .ok (.aload_n 0, 1) := by decide +kernel
theorem dX7_type_47 : decode cX7_type 47 = .ok (.getfield 158, 3) := by decide +kernel
theorem dX7_type_50 : decode cX7_type 50 = .ok (.iload_n 1, 1) := by decide +kernel
theorem dX7_type_51 : decode cX7_type 51 = .ok (.iastore, 1) := by decide +kernel
theorem dX7_type_52 : decode cX7_type 52 = .ok (.aload_n 0, 1) := by decide +kernel
theorem dX7_type_53 : decode cX7_type 53 = .ok (.dup, 1) := by decide +kernel
theorem dX7_type_54 : decode cX7_type 54 = .ok (.getfield 158, 3) := by decide +kernel
theorem dX7_type_57 : decode cX7_type 57 = .ok (.iconst 1, 1) := by decide +kernel
theorem dX7_type_58 : decode cX7_type 58 = .ok (.iadd, 1) := by decide +kernel
theorem dX7_type_59 : decode cX7_type 59 = .ok (.putfield 158, 3) := by decide +kernel
theorem dX7_type_62 : decode cX7_type 62 = .ok (.aload_n 0, 1) := by decide +kernel
theorem dX7_type_63 : decode cX7_type 63 = .ok (.getfield 158, 3) := by decide +kernel
theorem dX7_type_66 : decode cX7_type 66 = .ok (.ireturn, 1) := by decide +kernel
abbrev rmX7_type : Room := { frames := 2, cells := 0, slots := 0, locals := 62 }
noncomputable def fX7_type_30 (n : Nat) (Sh : Sp) (a0 : Nat) (a1 : Int32) (M : Mm) (t0 : Nat) (t1 : Int32) : Option (Int32 × Mm) :=
  pI Sh M t0 7 5 t1 fun M1 =>
  tI M1 a0 5 fun x2 =>
  if x2 = 0 then
    tF M1 a0 3 fun b3 =>
    tI M1 a0 4 fun x4 =>
    sI Sh M1 b3 x4 a1 fun M5 =>
    tI M5 a0 4 fun x6 =>
    qI M5 a0 4 (x6 + 1) fun M7 =>
    tI M7 a0 4 fun x8 =>
    some (x8, M7)
  else
    some (0, M1)
noncomputable def fX7_type (n : Nat) (Sh : Sp) (M : Mm) (a0 : Nat) (a1 : Int32) : Option (Int32 × Mm) :=
  (fX7_in n Sh M a1 33 126).bind fun r9 =>
  if r9 = 0 then
    fX7_type_30 n Sh a0 a1 M a0 1
  else
    tI M a0 4 fun x10 =>
    if x10 = 8 then
      fX7_type_30 n Sh a0 a1 M a0 2
    else
      fX7_type_30 n Sh a0 a1 M a0 0
set_option maxRecDepth 100000 in
set_option maxHeartbeats 4000000 in
theorem kX7_type {l : Launch} {G : Gt} {n : Nat} {Sh : Sp} {M : Mm} {a0 : Nat} {a1 : Int32} (hT : Sh a0 = some (.inl 7)) {r : (Int32 × Mm)} (h : fX7_type n Sh M a0 a1 = some r) : Ct l yX7_type cX7_type 2 (some .int) rmX7_type G Sh M [.ref a0, .int a1] (some (.int r.1)) r.2 := by
  refine Ct.of (by decide) (Nat.le_of_ble_eq_true rfl) ?_
  intro p e s m args below meth c ls C hK hX hP hS hb hlk hr hl
  replace hl : lv_has ls 2 [(0, .ref a0), (1, .int a1)] := hl
  have J30 : ∀ (M : Mm) (t0 : Nat) (t1 : Int32) (H : Heap) (locs : List Loc) (ls : Array Slot), HM G Sh M H → SS G s s.heap.size H locs → lv_has ls 2 [(0, .ref a0), (1, .int a1)] → fX7_type_30 n Sh a0 a1 M t0 t1 = some r → W p l e rmX7_type s m args below meth c H locs 0 0 (MQ below (QG G Sh r.2 (some (.int r.1))) args s rmX7_type.cells rmX7_type.slots (AA G)) (F0 m 30 ls [.int t1, .ref t0]) := by
    intro M t0 t1 H locs ls hP hS hl h
    unfold fX7_type_30 at h
    refine r_pI C hK hP hS cl_7 (k := 5) (by decide) wd_1149 rfl rfl (tyX7_ok 5 (by decide)) dX7_type_30 h (fun M1 H locs h hP hS => ?_)
    refine lv_aload_n C.1 C.2.1 dX7_type_33 rfl (lv_at hl 0 rfl) ?_
    refine r_tI C hK hP hT cl_7 (k := 5) (by decide) wd_1149 rfl dX7_type_34 h (fun x2 h => ?_)
    refine b_eq (tgt := 42) C dX7_type_37 (by decide) h (fun h => ?_) (fun h => ?_)
    · refine lv_aload_n C.1 C.2.1 dX7_type_42 rfl (lv_at hl 0 rfl) ?_
      refine r_tF C hK hP hT cl_7 (k := 3) (by decide) wd_1147 rfl dX7_type_43 h (fun b3 h => ?_)
      refine lv_aload_n C.1 C.2.1 dX7_type_46 rfl (lv_at hl 0 rfl) ?_
      refine r_tI C hK hP hT cl_7 (k := 4) (by decide) wd_1148 rfl dX7_type_47 h (fun x4 h => ?_)
      refine lv_iload_n C.1 C.2.1 dX7_type_50 rfl (lv_at hl 1 rfl) ?_
      refine r_sI C hK hP hS dX7_type_51 h (fun M5 H locs h hP hS => ?_)
      refine lv_aload_n C.1 C.2.1 dX7_type_52 rfl (lv_at hl 0 rfl) ?_
      refine lv_dup C.1 C.2.1 dX7_type_53 rfl ?_
      refine r_tI C hK hP hT cl_7 (k := 4) (by decide) wd_1148 rfl dX7_type_54 h (fun x6 h => ?_)
      refine lv_iconst (v := 1) C.1 C.2.1 dX7_type_57 (by decide) ?_
      refine lv_iadd C.1 C.2.1 dX7_type_58 ?_
      refine r_qI C hK hP hS hT cl_7 (k := 4) (by decide) wd_1148 rfl rfl (tyX7_ok 4 (by decide)) dX7_type_59 h (fun M7 H locs h hP hS => ?_)
      refine lv_aload_n C.1 C.2.1 dX7_type_62 rfl (lv_at hl 0 rfl) ?_
      refine r_tI C hK hP hT cl_7 (k := 4) (by decide) wd_1148 rfl dX7_type_63 h (fun x8 h => ?_)
      have e := Option.some.inj h
      exact q_i C hlk hP hS hr (by rw [← e]) (by rw [← e]) dX7_type_66
    · refine lv_iconst (v := 0) C.1 C.2.1 dX7_type_40 (by decide) ?_
      have e := Option.some.inj h
      exact q_i C hlk hP hS hr (by rw [← e]) (by rw [← e]) dX7_type_41
  unfold fX7_type at h
  refine lv_aload_n C.1 C.2.1 dX7_type_0 rfl (lv_at hl 0 rfl) ?_
  refine lv_iload_n C.1 C.2.1 dX7_type_1 rfl (lv_at hl 1 rfl) ?_
  refine lv_bipush (v := 33) C.1 C.2.1 dX7_type_2 (by decide) ?_
  refine lv_bipush (v := 126) C.1 C.2.1 dX7_type_4 (by decide) ?_
  obtain ⟨r9, hc, h⟩ := bS h
  refine r_S1 C hK hX hb hP hS hl.1 (kX7_in hc) wd_1194 mo_X7_in wd_1195 ⟨Nat.le_of_ble_eq_true rfl, Nat.le_of_ble_eq_true rfl⟩ ⟨Nat.le_of_ble_eq_true rfl, Nat.le_of_ble_eq_true rfl⟩ rfl (rest := [.ref a0]) rfl (Nat.le_of_ble_eq_true rfl) dX7_type_6 (fun H locs hP hS => ?_)
  refine b_ne (tgt := 16) C dX7_type_9 (by decide) h (fun h => ?_) (fun h => ?_)
  · refine lv_iconst (v := 1) C.1 C.2.1 dX7_type_12 (by decide) ?_
    refine lv_goto (tgt := 30) C.1 C.2.1 dX7_type_13 (by decide) ?_
    exact J30 (M) (a0) (1) _ _ _ hP hS (lv_sub hl [0, 1] rfl) h
  · refine lv_aload_n C.1 C.2.1 dX7_type_16 rfl (lv_at hl 0 rfl) ?_
    refine r_tI C hK hP hT cl_7 (k := 4) (by decide) wd_1148 rfl dX7_type_17 h (fun x10 h => ?_)
    refine lv_bipush (v := 8) C.1 C.2.1 dX7_type_20 (by decide) ?_
    refine b_ine (tgt := 29) C dX7_type_22 (by decide) h (fun h => ?_) (fun h => ?_)
    · refine lv_iconst (v := 2) C.1 C.2.1 dX7_type_25 (by decide) ?_
      refine lv_goto (tgt := 30) C.1 C.2.1 dX7_type_26 (by decide) ?_
      exact J30 (M) (a0) (2) _ _ _ hP hS (lv_sub hl [0, 1] rfl) h
    · refine lv_iconst (v := 0) C.1 C.2.1 dX7_type_29 (by decide) ?_
      exact J30 (M) (a0) (0) _ _ _ hP hS (lv_sub hl [0, 1] rfl) h
theorem dX7_clearText_0 : decode cX7_clearText 0 = .ok (.aload_n 0, 1) := by decide +kernel
theorem dX7_clearText_1 : decode cX7_clearText 1 = .ok (.iconst 0, 1) := by decide +kernel
theorem dX7_clearText_2 : decode cX7_clearText 2 = .ok (.putfield 29, 3) := by decide +kernel
theorem dX7_clearText_5 : decode cX7_clearText 5 = .ok (.aload_n 0, 1) := by decide +kernel
theorem dX7_clearText_6 : decode cX7_clearText 6 = .ok (.getfield 158, 3) := by decide +kernel
theorem dX7_clearText_9 : decode cX7_clearText 9 = .ok (.istore_n 1, 1) := by decide +kernel
theorem dX7_clearText_10 : decode cX7_clearText 10 = .ok (.aload_n 0, 1) := by decide +kernel
theorem dX7_clearText_11 : decode cX7_clearText 11 = .ok (.iconst 0, 1) := by decide +kernel
theorem dX7_clearText_12 : decode cX7_clearText 12 = .ok (.putfield 158, 3) := by decide +kernel
theorem dX7_clearText_15 : decode cX7_clearText 15 = .ok (.iload_n 1, 1) := by decide +kernel
theorem dX7_clearText_16 : decode cX7_clearText 16 = .ok (.ireturn, 1) := by decide +kernel
abbrev rmX7_clearText : Room := { frames := 1, cells := 0, slots := 0, locals := 40 }
noncomputable def fX7_clearText (n : Nat) (Sh : Sp) (M : Mm) (a0 : Nat) : Option (Int32 × Mm) :=
  qI M a0 5 0 fun M1 =>
  tI M1 a0 4 fun x2 =>
  qI M1 a0 4 0 fun M3 =>
  some (x2, M3)
set_option maxRecDepth 100000 in
set_option maxHeartbeats 4000000 in
theorem kX7_clearText {l : Launch} {G : Gt} {n : Nat} {Sh : Sp} {M : Mm} {a0 : Nat} (hT : Sh a0 = some (.inl 7)) {r : (Int32 × Mm)} (h : fX7_clearText n Sh M a0 = some r) : Ct l yX7_clearText cX7_clearText 2 (some .int) rmX7_clearText G Sh M [.ref a0] (some (.int r.1)) r.2 := by
  refine Ct.of (by decide) (Nat.le_of_ble_eq_true rfl) ?_
  intro p e s m args below meth c ls C hK hX hP hS hb hlk hr hl
  replace hl : lv_has ls 2 [(0, .ref a0)] := hl
  unfold fX7_clearText at h
  refine lv_aload_n C.1 C.2.1 dX7_clearText_0 rfl (lv_at hl 0 rfl) ?_
  refine lv_iconst (v := 0) C.1 C.2.1 dX7_clearText_1 (by decide) ?_
  refine r_qI C hK hP hS hT cl_7 (k := 5) (by decide) wd_1149 rfl rfl (tyX7_ok 5 (by decide)) dX7_clearText_2 h (fun M1 H locs h hP hS => ?_)
  refine lv_aload_n C.1 C.2.1 dX7_clearText_5 rfl (lv_at hl 0 rfl) ?_
  refine r_tI C hK hP hT cl_7 (k := 4) (by decide) wd_1148 rfl dX7_clearText_6 h (fun x2 h => ?_)
  refine lv_istore_n (lv' := [(1, .int x2), (0, .ref a0)]) C.1 C.2.1 dX7_clearText_9 rfl hl (by decide) rfl (fun ls hl => ?_)
  refine lv_aload_n C.1 C.2.1 dX7_clearText_10 rfl (lv_at hl 1 rfl) ?_
  refine lv_iconst (v := 0) C.1 C.2.1 dX7_clearText_11 (by decide) ?_
  refine r_qI C hK hP hS hT cl_7 (k := 4) (by decide) wd_1148 rfl rfl (tyX7_ok 4 (by decide)) dX7_clearText_12 h (fun M3 H locs h hP hS => ?_)
  refine lv_iload_n C.1 C.2.1 dX7_clearText_15 rfl (lv_at hl 0 rfl) ?_
  have e := Option.some.inj h
  exact q_i C hlk hP hS hr (by rw [← e]) (by rw [← e]) dX7_clearText_16
theorem dX7_undo_0 : decode cX7_undo 0 = .ok (.aload_n 0, 1) := by decide +kernel
theorem dX7_undo_1 : decode cX7_undo 1 = .ok (.aload_n 0, 1) := by decide +kernel
theorem dX7_undo_2 : decode cX7_undo 2 = .ok (.getfield 33, 3) := by decide +kernel
theorem dX7_undo_5 : decode cX7_undo 5 = .ok (.ifCond .ne 7, 3) := by decide +kernel
theorem dX7_undo_8 : decode cX7_undo 8 = .ok (.iconst 1, 1) := by decide +kernel
theorem dX7_undo_9 : decode cX7_undo 9 = .ok (.goto 4, 3) := by decide +kernel
theorem dX7_undo_12 : decode cX7_undo 12 = .ok (.iconst 0, 1) := by decide +kernel
theorem dX7_undo_13 : decode cX7_undo 13 = .ok (.putfield 29, 3) := by decide +kernel
theorem dX7_undo_16 : decode cX7_undo 16 = .ok (.aload_n 0, 1) := by decide +kernel
theorem dX7_undo_17 : decode cX7_undo 17 = .ok (.getfield 29, 3) := by decide +kernel
theorem dX7_undo_20 : decode cX7_undo 20 = .ok (.ifCond .eq 5, 3) := by decide +kernel
theorem dX7_undo_23 : decode cX7_undo 23 = .ok (.iconst 0, 1) := by decide +kernel
theorem dX7_undo_24 : decode cX7_undo 24 = .ok (.ireturn, 1) := by decide +kernel
theorem dX7_undo_25 : decode cX7_undo 25 = .ok (.aload_n 0, 1) := by decide +kernel
theorem dX7_undo_26 : decode cX7_undo 26 = .ok (.dup, 1) := by decide +kernel
theorem dX7_undo_27 : decode cX7_undo 27 = .ok (.getfield 33, 3) := by decide +kernel
theorem dX7_undo_30 : decode cX7_undo 30 = .ok (.iconst 1, 1) := by decide +kernel
theorem dX7_undo_31 : decode cX7_undo 31 = .ok (.isub, 1) := by decide +kernel
theorem dX7_undo_32 : decode cX7_undo 32 = .ok (.putfield 33, 3) := by decide +kernel
theorem dX7_undo_35 : decode cX7_undo 35 = .ok (.iconst 0, 1) := by decide +kernel
theorem dX7_undo_36 : decode cX7_undo 36 = .ok (.istore_n 1, 1) := by decide +kernel
theorem dX7_undo_37 : decode cX7_undo 37 = .ok (.iload_n 1, 1) := by decide +kernel
theorem dX7_undo_38 : decode cX7_undo 38 = .ok (.sipush 3405, 3) := by decide +kernel
theorem dX7_undo_41 : decode cX7_undo 41 = .ok (.if_icmp .ge 30, 3) := by decide +kernel
theorem dX7_undo_44 : decode cX7_undo 44 = .ok (.aload_n 0, 1) := by decide +kernel
theorem dX7_undo_45 : decode cX7_undo 45 = .ok (.getfield 7, 3) := by decide +kernel
theorem dX7_undo_48 : decode cX7_undo 48 = .ok (.iload_n 1, 1) := by decide +kernel
theorem dX7_undo_49 : decode cX7_undo 49 = .ok (.aload_n 0, 1) := by decide +kernel
theorem dX7_undo_50 : decode cX7_undo 50 = .ok (.getfield 13, 3) := by decide +kernel
theorem dX7_undo_53 : decode cX7_undo 53 = .ok (.sipush 3405, 3) := by decide +kernel
theorem dX7_undo_56 : decode cX7_undo 56 = .ok (.aload_n 0, 1) := by decide +kernel
theorem dX7_undo_57 : decode cX7_undo 57 = .ok (.getfield 33, 3) := by decide +kernel
theorem dX7_undo_60 : decode cX7_undo 60 = .ok (.imul, 1) := by decide +kernel
theorem dX7_undo_61 : decode cX7_undo 61 = .ok (.iload_n 1, 1) := by decide +kernel
theorem dX7_undo_62 : decode cX7_undo 62 = .ok (.iadd, 1) := by decide +kernel
theorem dX7_undo_63 : decode cX7_undo 63 = .ok (.iaload, 1) := by decide +kernel
theorem dX7_undo_64 : decode cX7_undo 64 = .ok (.iastore, 1) := by decide +kernel
theorem dX7_undo_65 : decode cX7_undo 65 = .ok (.iinc 1 1, 3) := by decide +kernel
theorem dX7_undo_68 : decode cX7_undo 68 = .ok (.goto (-31), 3) := by decide +kernel
theorem dX7_undo_71 : decode cX7_undo 71 = .ok (.aload_n 0, 1) := by decide +kernel
theorem dX7_undo_72 : decode cX7_undo 72 = .ok (.getfield 33, 3) := by decide +kernel
theorem dX7_undo_75 : decode cX7_undo 75 = .ok (.ireturn, 1) := by decide +kernel
abbrev rmX7_undo : Room := { frames := 1, cells := 0, slots := 0, locals := 40 }
noncomputable def fX7_undo_71 (n : Nat) (Sh : Sp) (a0 : Nat) (M : Mm) : Option (Int32 × Mm) :=
  tI M a0 2 fun x1 =>
  some (x1, M)
noncomputable def fX7_undo_37b (n : Nat) (Sh : Sp) (a0 : Nat) (M : Mm) (v1 : Int32) : Option ((Int32 × Mm) ⊕ (Int32 × Mm)) :=
  if v1 < 3405 then
    tF M a0 0 fun b2 =>
    tF M a0 1 fun b3 =>
    tI M a0 2 fun x4 =>
    aI Sh M b3 0 ((3405 * x4) + v1) fun x5 =>
    sI Sh M b2 v1 x5 fun M6 =>
    some (Sum.inl ((v1 + 1), M6))
  else
    (fX7_undo_71 n Sh a0 M).map Sum.inr
noncomputable def fX7_undo_37 (n : Nat) (Sh : Sp) (a0 : Nat) (M : Mm) (v1 : Int32) : Option (Int32 × Mm) :=
  iter n (fun s => fX7_undo_37b n Sh a0 s.2 s.1) (v1, M)
noncomputable def fX7_undo_13 (n : Nat) (Sh : Sp) (a0 : Nat) (M : Mm) (t0 : Nat) (t1 : Int32) : Option (Int32 × Mm) :=
  pI Sh M t0 7 5 t1 fun M7 =>
  tI M7 a0 5 fun x8 =>
  if x8 = 0 then
    tI M7 a0 2 fun x9 =>
    qI M7 a0 2 (x9 - 1) fun M10 =>
    fX7_undo_37 n Sh a0 M10 0
  else
    some (0, M7)
noncomputable def fX7_undo (n : Nat) (Sh : Sp) (M : Mm) (a0 : Nat) : Option (Int32 × Mm) :=
  tI M a0 2 fun x11 =>
  if x11 = 0 then
    fX7_undo_13 n Sh a0 M a0 1
  else
    fX7_undo_13 n Sh a0 M a0 0
set_option maxRecDepth 100000 in
set_option maxHeartbeats 4000000 in
theorem kX7_undo {l : Launch} {G : Gt} {n : Nat} {Sh : Sp} {M : Mm} {a0 : Nat} (hT : Sh a0 = some (.inl 7)) {r : (Int32 × Mm)} (h : fX7_undo n Sh M a0 = some r) : Ct l yX7_undo cX7_undo 2 (some .int) rmX7_undo G Sh M [.ref a0] (some (.int r.1)) r.2 := by
  refine Ct.of (by decide) (Nat.le_of_ble_eq_true rfl) ?_
  intro p e s m args below meth c ls C hK hX hP hS hb hlk hr hl
  replace hl : lv_has ls 2 [(0, .ref a0)] := hl
  have J71 : ∀ (M : Mm) (H : Heap) (locs : List Loc) (ls : Array Slot), HM G Sh M H → SS G s s.heap.size H locs → lv_has ls 2 [(0, .ref a0)] → fX7_undo_71 n Sh a0 M = some r → W p l e rmX7_undo s m args below meth c H locs 0 0 (MQ below (QG G Sh r.2 (some (.int r.1))) args s rmX7_undo.cells rmX7_undo.slots (AA G)) (F0 m 71 ls []) := by
    intro M H locs ls hP hS hl h
    unfold fX7_undo_71 at h
    refine lv_aload_n C.1 C.2.1 dX7_undo_71 rfl (lv_at hl 0 rfl) ?_
    refine r_tI C hK hP hT cl_7 (k := 2) (by decide) wd_1146 rfl dX7_undo_72 h (fun x1 h => ?_)
    have e := Option.some.inj h
    exact q_i C hlk hP hS hr (by rw [← e]) (by rw [← e]) dX7_undo_75
  have J37 : ∀ (k : Nat) (v1 : Int32) (M : Mm) (H : Heap) (locs : List Loc) (ls : Array Slot), HM G Sh M H → SS G s s.heap.size H locs → lv_has ls 2 [(0, .ref a0), (1, .int v1)] → iter k (fun s => fX7_undo_37b n Sh a0 s.2 s.1) (v1, M) = some r → W p l e rmX7_undo s m args below meth c H locs 0 0 (MQ below (QG G Sh r.2 (some (.int r.1))) args s rmX7_undo.cells rmX7_undo.slots (AA G)) (F0 m 37 ls []) := by
    intro k
    induction k with
    | zero => intro v1 M H locs ls hP hS hl h; exact (iter_0 h).elim
    | succ k ih1 =>
      intro v1 M H locs ls hP hS hl h
      obtain ⟨z1, h, hz1⟩ := iter_some h
      replace h : fX7_undo_37b n Sh a0 M v1 = some z1 := h
      unfold fX7_undo_37b at h
      refine lv_iload_n C.1 C.2.1 dX7_undo_37 rfl (lv_at hl 1 rfl) ?_
      refine lv_sipush (v := 3405) C.1 C.2.1 dX7_undo_38 (by decide) ?_
      refine b_ige (tgt := 71) C dX7_undo_41 (by decide) h (fun h => ?_) (fun h => ?_)
      · refine lv_aload_n C.1 C.2.1 dX7_undo_44 rfl (lv_at hl 0 rfl) ?_
        refine r_tF C hK hP hT cl_7 (k := 0) (by decide) wd_1144 rfl dX7_undo_45 h (fun b2 h => ?_)
        refine lv_iload_n C.1 C.2.1 dX7_undo_48 rfl (lv_at hl 1 rfl) ?_
        refine lv_aload_n C.1 C.2.1 dX7_undo_49 rfl (lv_at hl 0 rfl) ?_
        refine r_tF C hK hP hT cl_7 (k := 1) (by decide) wd_1145 rfl dX7_undo_50 h (fun b3 h => ?_)
        refine lv_sipush (v := 3405) C.1 C.2.1 dX7_undo_53 (by decide) ?_
        refine lv_aload_n C.1 C.2.1 dX7_undo_56 rfl (lv_at hl 0 rfl) ?_
        refine r_tI C hK hP hT cl_7 (k := 2) (by decide) wd_1146 rfl dX7_undo_57 h (fun x4 h => ?_)
        refine lv_imul C.1 C.2.1 dX7_undo_60 ?_
        refine lv_iload_n C.1 C.2.1 dX7_undo_61 rfl (lv_at hl 1 rfl) ?_
        refine lv_iadd C.1 C.2.1 dX7_undo_62 ?_
        refine r_aI C hK hP dX7_undo_63 h (fun x5 h => ?_)
        refine r_sI C hK hP hS dX7_undo_64 h (fun M6 H locs h hP hS => ?_)
        refine lv_iinc (v := (v1 + 1)) (lv' := [(1, .int (v1 + 1)), (0, .ref a0)]) C.1 C.2.1 dX7_undo_65 hl (k := 1) rfl rfl (by decide) rfl (fun ls hl => ?_)
        refine lv_goto (tgt := 37) C.1 C.2.1 dX7_undo_68 (by decide) ?_
        have e := Option.some.inj h
        rw [← e] at hz1
        exact ih1 ((v1 + 1)) M6 _ _ _ hP hS (lv_sub hl [1, 0] rfl) (itK_inl hz1)
      · obtain ⟨w1, h, e⟩ := mS h
        rw [← e] at hz1
        replace e := itK_inr hz1
        rw [e] at h
        exact J71 (M) _ _ _ hP hS (lv_sub hl [0] rfl) h
  have J13 : ∀ (M : Mm) (t0 : Nat) (t1 : Int32) (H : Heap) (locs : List Loc) (ls : Array Slot), HM G Sh M H → SS G s s.heap.size H locs → lv_has ls 2 [(0, .ref a0)] → fX7_undo_13 n Sh a0 M t0 t1 = some r → W p l e rmX7_undo s m args below meth c H locs 0 0 (MQ below (QG G Sh r.2 (some (.int r.1))) args s rmX7_undo.cells rmX7_undo.slots (AA G)) (F0 m 13 ls [.int t1, .ref t0]) := by
    intro M t0 t1 H locs ls hP hS hl h
    unfold fX7_undo_13 at h
    refine r_pI C hK hP hS cl_7 (k := 5) (by decide) wd_1149 rfl rfl (tyX7_ok 5 (by decide)) dX7_undo_13 h (fun M7 H locs h hP hS => ?_)
    refine lv_aload_n C.1 C.2.1 dX7_undo_16 rfl (lv_at hl 0 rfl) ?_
    refine r_tI C hK hP hT cl_7 (k := 5) (by decide) wd_1149 rfl dX7_undo_17 h (fun x8 h => ?_)
    refine b_eq (tgt := 25) C dX7_undo_20 (by decide) h (fun h => ?_) (fun h => ?_)
    · refine lv_aload_n C.1 C.2.1 dX7_undo_25 rfl (lv_at hl 0 rfl) ?_
      refine lv_dup C.1 C.2.1 dX7_undo_26 rfl ?_
      refine r_tI C hK hP hT cl_7 (k := 2) (by decide) wd_1146 rfl dX7_undo_27 h (fun x9 h => ?_)
      refine lv_iconst (v := 1) C.1 C.2.1 dX7_undo_30 (by decide) ?_
      refine lv_isub C.1 C.2.1 dX7_undo_31 ?_
      refine r_qI C hK hP hS hT cl_7 (k := 2) (by decide) wd_1146 rfl rfl (tyX7_ok 2 (by decide)) dX7_undo_32 h (fun M10 H locs h hP hS => ?_)
      refine lv_iconst (v := 0) C.1 C.2.1 dX7_undo_35 (by decide) ?_
      refine lv_istore_n (lv' := [(1, .int 0), (0, .ref a0)]) C.1 C.2.1 dX7_undo_36 rfl hl (by decide) rfl (fun ls hl => ?_)
      exact J37  n (0) M10 _ _ _ hP hS (lv_sub hl [1, 0] rfl) h
    · refine lv_iconst (v := 0) C.1 C.2.1 dX7_undo_23 (by decide) ?_
      have e := Option.some.inj h
      exact q_i C hlk hP hS hr (by rw [← e]) (by rw [← e]) dX7_undo_24
  unfold fX7_undo at h
  refine lv_aload_n C.1 C.2.1 dX7_undo_0 rfl (lv_at hl 0 rfl) ?_
  refine lv_aload_n C.1 C.2.1 dX7_undo_1 rfl (lv_at hl 0 rfl) ?_
  refine r_tI C hK hP hT cl_7 (k := 2) (by decide) wd_1146 rfl dX7_undo_2 h (fun x11 h => ?_)
  refine b_ne (tgt := 12) C dX7_undo_5 (by decide) h (fun h => ?_) (fun h => ?_)
  · refine lv_iconst (v := 1) C.1 C.2.1 dX7_undo_8 (by decide) ?_
    refine lv_goto (tgt := 13) C.1 C.2.1 dX7_undo_9 (by decide) ?_
    exact J13 (M) (a0) (1) _ _ _ hP hS (lv_sub hl [0] rfl) h
  · refine lv_iconst (v := 0) C.1 C.2.1 dX7_undo_12 (by decide) ?_
    exact J13 (M) (a0) (0) _ _ _ hP hS (lv_sub hl [0] rfl) h
theorem dX7_mix_0 : decode cX7_mix 0 = .ok (.aload_n 0, 1) := by decide +kernel
theorem dX7_mix_1 : decode cX7_mix 1 = .ok (.ldc2_w 219, 3) := by decide +kernel
theorem dX7_mix_4 : decode cX7_mix 4 = .ok (.aload_n 0, 1) := by decide +kernel
theorem dX7_mix_5 : decode cX7_mix 5 = .ok (.getfield 221, 3) := by decide +kernel
theorem dX7_mix_8 : decode cX7_mix 8 = .ok (.lmul, 1) := by decide +kernel
theorem dX7_mix_9 : decode cX7_mix 9 = .ok (.lload_n 1, 1) := by decide +kernel
theorem dX7_mix_10 : decode cX7_mix 10 = .ok (.ladd, 1) := by decide +kernel
theorem dX7_mix_11 : decode cX7_mix 11 = .ok (.putfield 221, 3) := by decide +kernel
theorem dX7_mix_14 : decode cX7_mix 14 = .ok (.return_, 1) := by decide +kernel
abbrev rmX7_mix : Room := { frames := 1, cells := 0, slots := 0, locals := 40 }
noncomputable def fX7_mix (n : Nat) (Sh : Sp) (M : Mm) (a0 : Nat) (a1 : Int64) : Option Mm :=
  tL M a0 11 fun y1 =>
  qL M a0 11 (((31 : Int64) * y1) + a1) fun M2 =>
  some M2
set_option maxRecDepth 100000 in
set_option maxHeartbeats 4000000 in
theorem kX7_mix {l : Launch} {G : Gt} {n : Nat} {Sh : Sp} {M : Mm} {a0 : Nat} {a1 : Int64} (hT : Sh a0 = some (.inl 7)) {r : Mm} (h : fX7_mix n Sh M a0 a1 = some r) : Ct l yX7_mix cX7_mix 3 none rmX7_mix G Sh M [.ref a0, .long a1] none r := by
  refine Ct.of (by decide) (Nat.le_of_ble_eq_true rfl) ?_
  intro p e s m args below meth c ls C hK hX hP hS hb hlk hr hl
  replace hl : lv_has ls 3 [(0, .ref a0), (1, .long a1)] := hl
  unfold fX7_mix at h
  refine lv_aload_n C.1 C.2.1 dX7_mix_0 rfl (lv_at hl 0 rfl) ?_
  refine lv_ldc2 (v := 31) C.1 C.2.1 C.2.2.2.1 (C.2.2.2.2 _ wd_1551) dX7_mix_1 ?_
  refine lv_aload_n C.1 C.2.1 dX7_mix_4 rfl (lv_at hl 0 rfl) ?_
  refine r_tL C hK hP hT cl_7 (k := 11) (by decide) wd_1155 rfl dX7_mix_5 h (fun y1 h => ?_)
  refine lv_lmul C.1 C.2.1 dX7_mix_8 ?_
  refine lv_lload_n C.1 C.2.1 dX7_mix_9 rfl (lv_at hl 1 rfl) ?_
  refine lv_ladd C.1 C.2.1 dX7_mix_10 ?_
  refine r_qL C hK hP hS hT cl_7 (k := 11) (by decide) wd_1155 rfl rfl (tyX7_ok 11 (by decide)) dX7_mix_11 h (fun M2 H locs h hP hS => ?_)
  have e := Option.some.inj h
  exact q_v C hlk hP hS hr rfl e.symm dX7_mix_14
theorem dX7_mixNodes_0 : decode cX7_mixNodes 0 = .ok (.iconst 0, 1) := by decide +kernel
theorem dX7_mixNodes_1 : decode cX7_mixNodes 1 = .ok (.istore_n 1, 1) := by decide +kernel
theorem dX7_mixNodes_2 : decode cX7_mixNodes 2 = .ok (.iconst 0, 1) := by decide +kernel
theorem dX7_mixNodes_3 : decode cX7_mixNodes 3 = .ok (.istore_n 2, 1) := by decide +kernel
theorem dX7_mixNodes_4 : decode cX7_mixNodes 4 = .ok (.iload_n 2, 1) := by decide +kernel
theorem dX7_mixNodes_5 : decode cX7_mixNodes 5 = .ok (.bipush 24, 2) := by decide +kernel
theorem dX7_mixNodes_7 : decode cX7_mixNodes 7 = .ok (.if_icmp .ge 20, 3) := by decide +kernel
theorem dX7_mixNodes_10 : decode cX7_mixNodes 10 = .ok (.iload_n 1, 1) := by decide +kernel
theorem dX7_mixNodes_11 : decode cX7_mixNodes 11 = .ok (.aload_n 0, 1) := by decide +kernel
theorem dX7_mixNodes_12 : decode cX7_mixNodes 12 = .ok (.iload_n 2, 1) := by decide +kernel
theorem dX7_mixNodes_13 : decode cX7_mixNodes 13 = .ok (.iconst 0, 1) := by decide +kernel
theorem dX7_mixNodes_14 : decode cX7_mixNodes 14 = .ok (.invokevirtual 40, 3) := by decide +kernel
theorem dX7_mixNodes_17 : decode cX7_mixNodes 17 = .ok (.iload_n 2, 1) := by decide +kernel
theorem dX7_mixNodes_18 : decode cX7_mixNodes 18 = .ok (.ishl, 1) := by decide +kernel
theorem dX7_mixNodes_19 : decode cX7_mixNodes 19 = .ok (.ior, 1) := by decide +kernel
theorem dX7_mixNodes_20 : decode cX7_mixNodes 20 = .ok (.istore_n 1, 1) := by decide +kernel
theorem dX7_mixNodes_21 : decode cX7_mixNodes 21 = .ok (.iinc 2 1, 3) := by decide +kernel
theorem dX7_mixNodes_24 : decode cX7_mixNodes 24 = .ok (.goto (-20), 3) := by decide +kernel
theorem dX7_mixNodes_27 : decode cX7_mixNodes 27 = .ok (.aload_n 0, 1) := by decide +kernel
theorem dX7_mixNodes_28 : decode cX7_mixNodes 28 = .ok (.iload_n 1, 1) := by decide +kernel
theorem dX7_mixNodes_29 : decode cX7_mixNodes 29 = .ok (.i2l, 1) := by decide +kernel
theorem dX7_mixNodes_30 : decode cX7_mixNodes 30 = .ok (.invokevirtual 225, 3) := by decide +kernel
theorem dX7_mixNodes_33 : decode cX7_mixNodes 33 = .ok (.iconst 0, 1) := by decide +kernel
theorem dX7_mixNodes_34 : decode cX7_mixNodes 34 = .ok (.istore_n 2, 1) := by decide +kernel
theorem dX7_mixNodes_35 : decode cX7_mixNodes 35 = .ok (.iload_n 2, 1) := by decide +kernel
theorem dX7_mixNodes_36 : decode cX7_mixNodes 36 = .ok (.iconst (-1), 1) := by decide +kernel
theorem dX7_mixNodes_37 : decode cX7_mixNodes 37 = .ok (.if_icmp .eq 77, 3) := by decide +kernel
theorem dX7_mixNodes_40 : decode cX7_mixNodes 40 = .ok (.aload_n 0, 1) := by decide +kernel
theorem dX7_mixNodes_41 : decode cX7_mixNodes 41 = .ok (.iload_n 2, 1) := by decide +kernel
theorem dX7_mixNodes_42 : decode cX7_mixNodes 42 = .ok (.i2l, 1) := by decide +kernel
theorem dX7_mixNodes_43 : decode cX7_mixNodes 43 = .ok (.invokevirtual 225, 3) := by decide +kernel
theorem dX7_mixNodes_46 : decode cX7_mixNodes 46 = .ok (.iconst 0, 1) := by decide +kernel
theorem dX7_mixNodes_47 : decode cX7_mixNodes 47 = .ok (.istore_n 3, 1) := by decide +kernel
theorem dX7_mixNodes_48 : decode cX7_mixNodes 48 = .ok (.iload_n 3, 1) := by decide +kernel
theorem dX7_mixNodes_49 : decode cX7_mixNodes 49 = .ok (.bipush 15, 2) := by decide +kernel
theorem dX7_mixNodes_51 : decode cX7_mixNodes 51 = .ok (.if_icmp .ge 20, 3) := by decide +kernel
theorem dX7_mixNodes_54 : decode cX7_mixNodes 54 = .ok (.aload_n 0, 1) := by decide +kernel
theorem dX7_mixNodes_55 : decode cX7_mixNodes 55 = .ok (.aload_n 0, 1) := by decide +kernel
theorem dX7_mixNodes_56 : decode cX7_mixNodes 56 = .ok (.iload_n 2, 1) := by decide +kernel
theorem dX7_mixNodes_57 : decode cX7_mixNodes 57 = .ok (.iload_n 3, 1) := by decide +kernel
theorem dX7_mixNodes_58 : decode cX7_mixNodes 58 = .ok (.invokevirtual 149, 3) := by decide +kernel
theorem dX7_mixNodes_61 : decode cX7_mixNodes 61 = .ok (.i2l, 1) := by decide +kernel
theorem dX7_mixNodes_62 : decode cX7_mixNodes 62 = .ok (.invokevirtual 225, 3) := by decide +kernel
theorem dX7_mixNodes_65 : decode cX7_mixNodes 65 = .ok (.iinc 3 1, 3) := by decide +kernel
theorem dX7_mixNodes_68 : decode cX7_mixNodes 68 = .ok (.goto (-20), 3) := by decide +kernel
theorem dX7_mixNodes_71 : decode cX7_mixNodes 71 = .ok (.aload_n 0, 1) := by decide +kernel
theorem dX7_mixNodes_72 : decode cX7_mixNodes 72 = .ok (.iload_n 2, 1) := by decide +kernel
theorem dX7_mixNodes_73 : decode cX7_mixNodes 73 = .ok (.iconst 3, 1) := by decide +kernel
theorem dX7_mixNodes_74 : decode cX7_mixNodes 74 = .ok (.invokevirtual 117, 3) := by decide +kernel
theorem dX7_mixNodes_77 : decode cX7_mixNodes 77 = .ok (.iconst 0, 1) := by decide +kernel
theorem dX7_mixNodes_78 : decode cX7_mixNodes 78 = .ok (.istore_n 3, 1) := by decide +kernel
theorem dX7_mixNodes_79 : decode cX7_mixNodes 79 = .ok (.iload_n 3, 1) := by decide +kernel
theorem dX7_mixNodes_80 : decode cX7_mixNodes 80 = .ok (.aload_n 0, 1) := by decide +kernel
theorem dX7_mixNodes_81 : decode cX7_mixNodes 81 = .ok (.getfield 58, 3) := by decide +kernel
theorem dX7_mixNodes_84 : decode cX7_mixNodes 84 = .ok (.if_icmp .ge 20, 3) := by decide +kernel
theorem dX7_mixNodes_87 : decode cX7_mixNodes 87 = .ok (.aload_n 0, 1) := by decide +kernel
theorem dX7_mixNodes_88 : decode cX7_mixNodes 88 = .ok (.aload_n 0, 1) := by decide +kernel
theorem dX7_mixNodes_89 : decode cX7_mixNodes 89 = .ok (.getfield 19, 3) := by decide +kernel
theorem dX7_mixNodes_92 : decode cX7_mixNodes 92 = .ok (.iload_n 3, 1) := by decide +kernel
theorem dX7_mixNodes_93 : decode cX7_mixNodes 93 = .ok (.iaload, 1) := by decide +kernel
theorem dX7_mixNodes_94 : decode cX7_mixNodes 94 = .ok (.i2l, 1) := by decide +kernel
theorem dX7_mixNodes_95 : decode cX7_mixNodes 95 = .ok (.invokevirtual 225, 3) := by decide +kernel
theorem dX7_mixNodes_98 : decode cX7_mixNodes 98 = .ok (.iinc 3 1, 3) := by decide +kernel
theorem dX7_mixNodes_101 : decode cX7_mixNodes 101 = .ok (.goto (-22), 3) := by decide +kernel
theorem dX7_mixNodes_104 : decode cX7_mixNodes 104 = .ok (.aload_n 0, 1) := by decide +kernel
theorem dX7_mixNodes_105 : decode cX7_mixNodes 105 = .ok (.iload_n 2, 1) := by decide +kernel
theorem dX7_mixNodes_106 : decode cX7_mixNodes 106 = .ok (.iconst 0, 1) := by decide +kernel
theorem dX7_mixNodes_107 : decode cX7_mixNodes 107 = .ok (.invokevirtual 75, 3) := by decide +kernel
theorem dX7_mixNodes_110 : decode cX7_mixNodes 110 = .ok (.istore_n 2, 1) := by decide +kernel
theorem dX7_mixNodes_111 : decode cX7_mixNodes 111 = .ok (.goto (-76), 3) := by decide +kernel
theorem dX7_mixNodes_114 : decode cX7_mixNodes 114 = .ok (.return_, 1) := by decide +kernel
abbrev rmX7_mixNodes : Room := { frames := 9, cells := 0, slots := 0, locals := 220 }
noncomputable def fX7_mixNodes_104 (n : Nat) (Sh : Sp) (a0 : Nat) (M : Mm) (v2 : Int32) : Option ((Int32 × Mm) ⊕ Mm) :=
  (fX7_following n Sh M a0 v2 0).bind fun r1 =>
  some (Sum.inl (r1, M))
noncomputable def fX7_mixNodes_79b (n : Nat) (Sh : Sp) (a0 : Nat) (M : Mm) (v2 : Int32) (v3 : Int32) : Option ((Int32 × Mm) ⊕ ((Int32 × Mm) ⊕ Mm)) :=
  tI M a0 7 fun x2 =>
  if v3 < x2 then
    tF M a0 6 fun b3 =>
    aI Sh M b3 0 v3 fun x4 =>
    (fX7_mix n Sh M a0 (Int32.toInt64 x4)).bind fun r5 =>
    some (Sum.inl ((v3 + 1), r5))
  else
    (fX7_mixNodes_104 n Sh a0 M v2).map Sum.inr
noncomputable def fX7_mixNodes_79 (n : Nat) (Sh : Sp) (a0 : Nat) (M : Mm) (v2 : Int32) (v3 : Int32) : Option ((Int32 × Mm) ⊕ Mm) :=
  iter n (fun s => fX7_mixNodes_79b n Sh a0 s.2 v2 s.1) (v3, M)
noncomputable def fX7_mixNodes_71 (n : Nat) (Sh : Sp) (a0 : Nat) (M : Mm) (v2 : Int32) : Option ((Int32 × Mm) ⊕ Mm) :=
  (fX7_lay n Sh M a0 v2 3).bind fun r6 =>
  fX7_mixNodes_79 n Sh a0 r6 v2 0
noncomputable def fX7_mixNodes_48b (n : Nat) (Sh : Sp) (a0 : Nat) (M : Mm) (v2 : Int32) (v3 : Int32) : Option ((Int32 × Mm) ⊕ ((Int32 × Mm) ⊕ Mm)) :=
  if v3 < 15 then
    (fX7_infoOf n Sh M a0 v2 v3).bind fun r7 =>
    (fX7_mix n Sh M a0 (Int32.toInt64 r7)).bind fun r8 =>
    some (Sum.inl ((v3 + 1), r8))
  else
    (fX7_mixNodes_71 n Sh a0 M v2).map Sum.inr
noncomputable def fX7_mixNodes_48 (n : Nat) (Sh : Sp) (a0 : Nat) (M : Mm) (v2 : Int32) (v3 : Int32) : Option ((Int32 × Mm) ⊕ Mm) :=
  iter n (fun s => fX7_mixNodes_48b n Sh a0 s.2 v2 s.1) (v3, M)
noncomputable def fX7_mixNodes_35b (n : Nat) (Sh : Sp) (a0 : Nat) (M : Mm) (v2 : Int32) : Option ((Int32 × Mm) ⊕ Mm) :=
  if v2 = (-1) then
    some (Sum.inr M)
  else
    (fX7_mix n Sh M a0 (Int32.toInt64 v2)).bind fun r9 =>
    fX7_mixNodes_48 n Sh a0 r9 v2 0
noncomputable def fX7_mixNodes_35 (n : Nat) (Sh : Sp) (a0 : Nat) (M : Mm) (v2 : Int32) : Option Mm :=
  iter n (fun s => fX7_mixNodes_35b n Sh a0 s.2 s.1) (v2, M)
noncomputable def fX7_mixNodes_27 (n : Nat) (Sh : Sp) (a0 : Nat) (M : Mm) (v1 : Int32) : Option Mm :=
  (fX7_mix n Sh M a0 (Int32.toInt64 v1)).bind fun r10 =>
  fX7_mixNodes_35 n Sh a0 r10 0
noncomputable def fX7_mixNodes_4b (n : Nat) (Sh : Sp) (a0 : Nat) (M : Mm) (v1 : Int32) (v2 : Int32) : Option ((Int32 × Int32) ⊕ Mm) :=
  if v2 < 24 then
    (fX7_of n Sh M a0 v2 0).bind fun r11 =>
    some (Sum.inl ((v1 ||| (r11 <<< (v2 &&& 31))), (v2 + 1)))
  else
    (fX7_mixNodes_27 n Sh a0 M v1).map Sum.inr
noncomputable def fX7_mixNodes_4 (n : Nat) (Sh : Sp) (a0 : Nat) (M : Mm) (v1 : Int32) (v2 : Int32) : Option Mm :=
  iter n (fun s => fX7_mixNodes_4b n Sh a0 M s.1 s.2) (v1, v2)
noncomputable def fX7_mixNodes (n : Nat) (Sh : Sp) (M : Mm) (a0 : Nat) : Option Mm :=
  fX7_mixNodes_4 n Sh a0 M 0 0
set_option maxRecDepth 100000 in
set_option maxHeartbeats 4000000 in
theorem kX7_mixNodes {l : Launch} {G : Gt} {n : Nat} {Sh : Sp} {M : Mm} {a0 : Nat} (hT : Sh a0 = some (.inl 7)) {r : Mm} (h : fX7_mixNodes n Sh M a0 = some r) : Ct l yX7_mixNodes cX7_mixNodes 4 none rmX7_mixNodes G Sh M [.ref a0] none r := by
  refine Ct.of (by decide) (Nat.le_of_ble_eq_true rfl) ?_
  intro p e s m args below meth c ls C hK hX hP hS hb hlk hr hl
  replace hl : lv_has ls 4 [(0, .ref a0)] := hl
  have J35 : ∀ (k : Nat) (v2 : Int32) (M : Mm) (H : Heap) (locs : List Loc) (ls : Array Slot), HM G Sh M H → SS G s s.heap.size H locs → lv_has ls 4 [(0, .ref a0), (2, .int v2)] → iter k (fun s => fX7_mixNodes_35b n Sh a0 s.2 s.1) (v2, M) = some r → W p l e rmX7_mixNodes s m args below meth c H locs 0 0 (MQ below (QG G Sh r none) args s rmX7_mixNodes.cells rmX7_mixNodes.slots (AA G)) (F0 m 35 ls []) := by
    intro k
    induction k with
    | zero => intro v2 M H locs ls hP hS hl h; exact (iter_0 h).elim
    | succ k ih1 =>
      intro v2 M H locs ls hP hS hl h
      obtain ⟨z1, h, hz1⟩ := iter_some h
      replace h : fX7_mixNodes_35b n Sh a0 M v2 = some z1 := h
      have J104 : ∀ (M : Mm) (v2 : Int32) (H : Heap) (locs : List Loc) (ls : Array Slot), HM G Sh M H → SS G s s.heap.size H locs → lv_has ls 4 [(0, .ref a0), (2, .int v2)] → fX7_mixNodes_104 n Sh a0 M v2 = some z1 → W p l e rmX7_mixNodes s m args below meth c H locs 0 0 (MQ below (QG G Sh r none) args s rmX7_mixNodes.cells rmX7_mixNodes.slots (AA G)) (F0 m 104 ls []) := by
        intro M v2 H locs ls hP hS hl h
        unfold fX7_mixNodes_104 at h
        refine lv_aload_n C.1 C.2.1 dX7_mixNodes_104 rfl (lv_at hl 0 rfl) ?_
        refine lv_iload_n C.1 C.2.1 dX7_mixNodes_105 rfl (lv_at hl 1 rfl) ?_
        refine lv_iconst (v := 0) C.1 C.2.1 dX7_mixNodes_106 (by decide) ?_
        obtain ⟨r1, hc, h⟩ := bS h
        refine r_V1 C hK hX hb hP hS hl.1 (kX7_following (hT) hc) hT cl_7 wd_1319 mo_X7_following wd_1321 wd_47 ⟨Nat.le_of_ble_eq_true rfl, Nat.le_of_ble_eq_true rfl⟩ ⟨Nat.le_of_ble_eq_true rfl, Nat.le_of_ble_eq_true rfl⟩ rfl (rest := []) rfl (Nat.le_of_ble_eq_true rfl) dX7_mixNodes_107 (fun H locs hP hS => ?_)
        refine lv_istore_n (lv' := [(2, .int r1), (0, .ref a0)]) C.1 C.2.1 dX7_mixNodes_110 rfl hl (by decide) rfl (fun ls hl => ?_)
        refine lv_goto (tgt := 35) C.1 C.2.1 dX7_mixNodes_111 (by decide) ?_
        have e := Option.some.inj h
        rw [← e] at hz1
        exact ih1 (r1) M _ _ _ hP hS (lv_sub hl [1, 0] rfl) (itK_inl hz1)
      have J79 : ∀ (v2 : Int32), ∀ (k : Nat) (v3 : Int32) (M : Mm) (H : Heap) (locs : List Loc) (ls : Array Slot), HM G Sh M H → SS G s s.heap.size H locs → lv_has ls 4 [(0, .ref a0), (2, .int v2), (3, .int v3)] → iter k (fun s => fX7_mixNodes_79b n Sh a0 s.2 v2 s.1) (v3, M) = some z1 → W p l e rmX7_mixNodes s m args below meth c H locs 0 0 (MQ below (QG G Sh r none) args s rmX7_mixNodes.cells rmX7_mixNodes.slots (AA G)) (F0 m 79 ls []) := by
        intro v2 k
        induction k with
        | zero => intro v3 M H locs ls hP hS hl h; exact (iter_0 h).elim
        | succ k ih2 =>
          intro v3 M H locs ls hP hS hl h
          obtain ⟨z2, h, hz2⟩ := iter_some h
          replace h : fX7_mixNodes_79b n Sh a0 M v2 v3 = some z2 := h
          unfold fX7_mixNodes_79b at h
          refine lv_iload_n C.1 C.2.1 dX7_mixNodes_79 rfl (lv_at hl 2 rfl) ?_
          refine lv_aload_n C.1 C.2.1 dX7_mixNodes_80 rfl (lv_at hl 0 rfl) ?_
          refine r_tI C hK hP hT cl_7 (k := 7) (by decide) wd_1151 rfl dX7_mixNodes_81 h (fun x2 h => ?_)
          refine b_ige (tgt := 104) C dX7_mixNodes_84 (by decide) h (fun h => ?_) (fun h => ?_)
          · refine lv_aload_n C.1 C.2.1 dX7_mixNodes_87 rfl (lv_at hl 0 rfl) ?_
            refine lv_aload_n C.1 C.2.1 dX7_mixNodes_88 rfl (lv_at hl 0 rfl) ?_
            refine r_tF C hK hP hT cl_7 (k := 6) (by decide) wd_1150 rfl dX7_mixNodes_89 h (fun b3 h => ?_)
            refine lv_iload_n C.1 C.2.1 dX7_mixNodes_92 rfl (lv_at hl 2 rfl) ?_
            refine r_aI C hK hP dX7_mixNodes_93 h (fun x4 h => ?_)
            refine lv_i2l C.1 C.2.1 dX7_mixNodes_94 rfl ?_
            obtain ⟨r5, hc, h⟩ := bS h
            refine r_V0 C hK hX hb hP hS hl.1 (kX7_mix (hT) hc) hT cl_7 wd_1547 mo_X7_mix wd_1549 wd_73 ⟨Nat.le_of_ble_eq_true rfl, Nat.le_of_ble_eq_true rfl⟩ ⟨Nat.le_of_ble_eq_true rfl, Nat.le_of_ble_eq_true rfl⟩ rfl (rest := []) rfl (Nat.le_of_ble_eq_true rfl) dX7_mixNodes_95 (fun H locs hP hS => ?_)
            refine lv_iinc (v := (v3 + 1)) (lv' := [(3, .int (v3 + 1)), (0, .ref a0), (2, .int v2)]) C.1 C.2.1 dX7_mixNodes_98 hl (k := 2) rfl rfl (by decide) rfl (fun ls hl => ?_)
            refine lv_goto (tgt := 79) C.1 C.2.1 dX7_mixNodes_101 (by decide) ?_
            have e := Option.some.inj h
            rw [← e] at hz2
            exact ih2 ((v3 + 1)) r5 _ _ _ hP hS (lv_sub hl [1, 2, 0] rfl) (itK_inl hz2)
          · obtain ⟨w2, h, e⟩ := mS h
            rw [← e] at hz2
            replace e := itK_inr hz2
            rw [e] at h
            exact J104 (M) (v2) _ _ _ hP hS (lv_sub hl [0, 1] rfl) h
      have J71 : ∀ (M : Mm) (v2 : Int32) (H : Heap) (locs : List Loc) (ls : Array Slot), HM G Sh M H → SS G s s.heap.size H locs → lv_has ls 4 [(0, .ref a0), (2, .int v2)] → fX7_mixNodes_71 n Sh a0 M v2 = some z1 → W p l e rmX7_mixNodes s m args below meth c H locs 0 0 (MQ below (QG G Sh r none) args s rmX7_mixNodes.cells rmX7_mixNodes.slots (AA G)) (F0 m 71 ls []) := by
        intro M v2 H locs ls hP hS hl h
        unfold fX7_mixNodes_71 at h
        refine lv_aload_n C.1 C.2.1 dX7_mixNodes_71 rfl (lv_at hl 0 rfl) ?_
        refine lv_iload_n C.1 C.2.1 dX7_mixNodes_72 rfl (lv_at hl 1 rfl) ?_
        refine lv_iconst (v := 3) C.1 C.2.1 dX7_mixNodes_73 (by decide) ?_
        obtain ⟨r6, hc, h⟩ := bS h
        refine r_V0 C hK hX hb hP hS hl.1 (kX7_lay (hT) hc) hT cl_7 wd_1291 mo_X7_lay wd_1293 wd_40 ⟨Nat.le_of_ble_eq_true rfl, Nat.le_of_ble_eq_true rfl⟩ ⟨Nat.le_of_ble_eq_true rfl, Nat.le_of_ble_eq_true rfl⟩ rfl (rest := []) rfl (Nat.le_of_ble_eq_true rfl) dX7_mixNodes_74 (fun H locs hP hS => ?_)
        refine lv_iconst (v := 0) C.1 C.2.1 dX7_mixNodes_77 (by decide) ?_
        refine lv_istore_n (lv' := [(3, .int 0), (0, .ref a0), (2, .int v2)]) C.1 C.2.1 dX7_mixNodes_78 rfl hl (by decide) rfl (fun ls hl => ?_)
        exact J79 (v2) n (0) r6 _ _ _ hP hS (lv_sub hl [1, 2, 0] rfl) h
      have J48 : ∀ (v2 : Int32), ∀ (k : Nat) (v3 : Int32) (M : Mm) (H : Heap) (locs : List Loc) (ls : Array Slot), HM G Sh M H → SS G s s.heap.size H locs → lv_has ls 4 [(0, .ref a0), (2, .int v2), (3, .int v3)] → iter k (fun s => fX7_mixNodes_48b n Sh a0 s.2 v2 s.1) (v3, M) = some z1 → W p l e rmX7_mixNodes s m args below meth c H locs 0 0 (MQ below (QG G Sh r none) args s rmX7_mixNodes.cells rmX7_mixNodes.slots (AA G)) (F0 m 48 ls []) := by
        intro v2 k
        induction k with
        | zero => intro v3 M H locs ls hP hS hl h; exact (iter_0 h).elim
        | succ k ih2 =>
          intro v3 M H locs ls hP hS hl h
          obtain ⟨z2, h, hz2⟩ := iter_some h
          replace h : fX7_mixNodes_48b n Sh a0 M v2 v3 = some z2 := h
          unfold fX7_mixNodes_48b at h
          refine lv_iload_n C.1 C.2.1 dX7_mixNodes_48 rfl (lv_at hl 2 rfl) ?_
          refine lv_bipush (v := 15) C.1 C.2.1 dX7_mixNodes_49 (by decide) ?_
          refine b_ige (tgt := 71) C dX7_mixNodes_51 (by decide) h (fun h => ?_) (fun h => ?_)
          · refine lv_aload_n C.1 C.2.1 dX7_mixNodes_54 rfl (lv_at hl 0 rfl) ?_
            refine lv_aload_n C.1 C.2.1 dX7_mixNodes_55 rfl (lv_at hl 0 rfl) ?_
            refine lv_iload_n C.1 C.2.1 dX7_mixNodes_56 rfl (lv_at hl 1 rfl) ?_
            refine lv_iload_n C.1 C.2.1 dX7_mixNodes_57 rfl (lv_at hl 2 rfl) ?_
            obtain ⟨r7, hc, h⟩ := bS h
            refine r_V1 C hK hX hb hP hS hl.1 (kX7_infoOf (hT) hc) hT cl_7 wd_1256 mo_X7_infoOf wd_1258 wd_34 ⟨Nat.le_of_ble_eq_true rfl, Nat.le_of_ble_eq_true rfl⟩ ⟨Nat.le_of_ble_eq_true rfl, Nat.le_of_ble_eq_true rfl⟩ rfl (rest := [.ref a0]) rfl (Nat.le_of_ble_eq_true rfl) dX7_mixNodes_58 (fun H locs hP hS => ?_)
            refine lv_i2l C.1 C.2.1 dX7_mixNodes_61 rfl ?_
            obtain ⟨r8, hc, h⟩ := bS h
            refine r_V0 C hK hX hb hP hS hl.1 (kX7_mix (hT) hc) hT cl_7 wd_1547 mo_X7_mix wd_1549 wd_73 ⟨Nat.le_of_ble_eq_true rfl, Nat.le_of_ble_eq_true rfl⟩ ⟨Nat.le_of_ble_eq_true rfl, Nat.le_of_ble_eq_true rfl⟩ rfl (rest := []) rfl (Nat.le_of_ble_eq_true rfl) dX7_mixNodes_62 (fun H locs hP hS => ?_)
            refine lv_iinc (v := (v3 + 1)) (lv' := [(3, .int (v3 + 1)), (0, .ref a0), (2, .int v2)]) C.1 C.2.1 dX7_mixNodes_65 hl (k := 2) rfl rfl (by decide) rfl (fun ls hl => ?_)
            refine lv_goto (tgt := 48) C.1 C.2.1 dX7_mixNodes_68 (by decide) ?_
            have e := Option.some.inj h
            rw [← e] at hz2
            exact ih2 ((v3 + 1)) r8 _ _ _ hP hS (lv_sub hl [1, 2, 0] rfl) (itK_inl hz2)
          · obtain ⟨w2, h, e⟩ := mS h
            rw [← e] at hz2
            replace e := itK_inr hz2
            rw [e] at h
            exact J71 (M) (v2) _ _ _ hP hS (lv_sub hl [0, 1] rfl) h
      unfold fX7_mixNodes_35b at h
      refine lv_iload_n C.1 C.2.1 dX7_mixNodes_35 rfl (lv_at hl 1 rfl) ?_
      refine lv_iconst (v := (-1)) C.1 C.2.1 dX7_mixNodes_36 (by decide) ?_
      refine b_ieq (tgt := 114) C dX7_mixNodes_37 (by decide) h (fun h => ?_) (fun h => ?_)
      · have e := Option.some.inj h
        rw [← e] at hz1
        replace e := itK_inr hz1
        exact q_v C hlk hP hS hr rfl e.symm dX7_mixNodes_114
      · refine lv_aload_n C.1 C.2.1 dX7_mixNodes_40 rfl (lv_at hl 0 rfl) ?_
        refine lv_iload_n C.1 C.2.1 dX7_mixNodes_41 rfl (lv_at hl 1 rfl) ?_
        refine lv_i2l C.1 C.2.1 dX7_mixNodes_42 rfl ?_
        obtain ⟨r9, hc, h⟩ := bS h
        refine r_V0 C hK hX hb hP hS hl.1 (kX7_mix (hT) hc) hT cl_7 wd_1547 mo_X7_mix wd_1549 wd_73 ⟨Nat.le_of_ble_eq_true rfl, Nat.le_of_ble_eq_true rfl⟩ ⟨Nat.le_of_ble_eq_true rfl, Nat.le_of_ble_eq_true rfl⟩ rfl (rest := []) rfl (Nat.le_of_ble_eq_true rfl) dX7_mixNodes_43 (fun H locs hP hS => ?_)
        refine lv_iconst (v := 0) C.1 C.2.1 dX7_mixNodes_46 (by decide) ?_
        refine lv_istore_n (lv' := [(3, .int 0), (0, .ref a0), (2, .int v2)]) C.1 C.2.1 dX7_mixNodes_47 rfl hl (by decide) rfl (fun ls hl => ?_)
        exact J48 (v2) n (0) r9 _ _ _ hP hS (lv_sub hl [1, 2, 0] rfl) h
  have J27 : ∀ (M : Mm) (v1 : Int32) (H : Heap) (locs : List Loc) (ls : Array Slot), HM G Sh M H → SS G s s.heap.size H locs → lv_has ls 4 [(0, .ref a0), (1, .int v1)] → fX7_mixNodes_27 n Sh a0 M v1 = some r → W p l e rmX7_mixNodes s m args below meth c H locs 0 0 (MQ below (QG G Sh r none) args s rmX7_mixNodes.cells rmX7_mixNodes.slots (AA G)) (F0 m 27 ls []) := by
    intro M v1 H locs ls hP hS hl h
    unfold fX7_mixNodes_27 at h
    refine lv_aload_n C.1 C.2.1 dX7_mixNodes_27 rfl (lv_at hl 0 rfl) ?_
    refine lv_iload_n C.1 C.2.1 dX7_mixNodes_28 rfl (lv_at hl 1 rfl) ?_
    refine lv_i2l C.1 C.2.1 dX7_mixNodes_29 rfl ?_
    obtain ⟨r10, hc, h⟩ := bS h
    refine r_V0 C hK hX hb hP hS hl.1 (kX7_mix (hT) hc) hT cl_7 wd_1547 mo_X7_mix wd_1549 wd_73 ⟨Nat.le_of_ble_eq_true rfl, Nat.le_of_ble_eq_true rfl⟩ ⟨Nat.le_of_ble_eq_true rfl, Nat.le_of_ble_eq_true rfl⟩ rfl (rest := []) rfl (Nat.le_of_ble_eq_true rfl) dX7_mixNodes_30 (fun H locs hP hS => ?_)
    refine lv_iconst (v := 0) C.1 C.2.1 dX7_mixNodes_33 (by decide) ?_
    refine lv_istore_n (lv' := [(2, .int 0), (0, .ref a0), (1, .int v1)]) C.1 C.2.1 dX7_mixNodes_34 rfl hl (by decide) rfl (fun ls hl => ?_)
    exact J35  n (0) r10 _ _ _ hP hS (lv_sub hl [1, 0] rfl) h
  have J4 : ∀ (M : Mm), ∀ (k : Nat) (v1 : Int32) (v2 : Int32) (H : Heap) (locs : List Loc) (ls : Array Slot), HM G Sh M H → SS G s s.heap.size H locs → lv_has ls 4 [(0, .ref a0), (1, .int v1), (2, .int v2)] → iter k (fun s => fX7_mixNodes_4b n Sh a0 M s.1 s.2) (v1, v2) = some r → W p l e rmX7_mixNodes s m args below meth c H locs 0 0 (MQ below (QG G Sh r none) args s rmX7_mixNodes.cells rmX7_mixNodes.slots (AA G)) (F0 m 4 ls []) := by
    intro M k
    induction k with
    | zero => intro v1 v2 H locs ls hP hS hl h; exact (iter_0 h).elim
    | succ k ih1 =>
      intro v1 v2 H locs ls hP hS hl h
      obtain ⟨z1, h, hz1⟩ := iter_some h
      replace h : fX7_mixNodes_4b n Sh a0 M v1 v2 = some z1 := h
      unfold fX7_mixNodes_4b at h
      refine lv_iload_n C.1 C.2.1 dX7_mixNodes_4 rfl (lv_at hl 2 rfl) ?_
      refine lv_bipush (v := 24) C.1 C.2.1 dX7_mixNodes_5 (by decide) ?_
      refine b_ige (tgt := 27) C dX7_mixNodes_7 (by decide) h (fun h => ?_) (fun h => ?_)
      · refine lv_iload_n C.1 C.2.1 dX7_mixNodes_10 rfl (lv_at hl 1 rfl) ?_
        refine lv_aload_n C.1 C.2.1 dX7_mixNodes_11 rfl (lv_at hl 0 rfl) ?_
        refine lv_iload_n C.1 C.2.1 dX7_mixNodes_12 rfl (lv_at hl 2 rfl) ?_
        refine lv_iconst (v := 0) C.1 C.2.1 dX7_mixNodes_13 (by decide) ?_
        obtain ⟨r11, hc, h⟩ := bS h
        refine r_V1 C hK hX hb hP hS hl.1 (kX7_of (hT) hc) hT cl_7 wd_1197 mo_X7_of wd_1199 wd_24 ⟨Nat.le_of_ble_eq_true rfl, Nat.le_of_ble_eq_true rfl⟩ ⟨Nat.le_of_ble_eq_true rfl, Nat.le_of_ble_eq_true rfl⟩ rfl (rest := [.int v1]) rfl (Nat.le_of_ble_eq_true rfl) dX7_mixNodes_14 (fun H locs hP hS => ?_)
        refine lv_iload_n C.1 C.2.1 dX7_mixNodes_17 rfl (lv_at hl 2 rfl) ?_
        refine lv_ishl C.1 C.2.1 dX7_mixNodes_18 ?_
        refine lv_ior C.1 C.2.1 dX7_mixNodes_19 ?_
        refine lv_istore_n (lv' := [(1, .int (v1 ||| (r11 <<< (v2 &&& 31)))), (0, .ref a0), (2, .int v2)]) C.1 C.2.1 dX7_mixNodes_20 rfl hl (by decide) rfl (fun ls hl => ?_)
        refine lv_iinc (v := (v2 + 1)) (lv' := [(2, .int (v2 + 1)), (1, .int (v1 ||| (r11 <<< (v2 &&& 31)))), (0, .ref a0)]) C.1 C.2.1 dX7_mixNodes_21 hl (k := 2) rfl rfl (by decide) rfl (fun ls hl => ?_)
        refine lv_goto (tgt := 4) C.1 C.2.1 dX7_mixNodes_24 (by decide) ?_
        have e := Option.some.inj h
        rw [← e] at hz1
        exact ih1 ((v1 ||| (r11 <<< (v2 &&& 31)))) ((v2 + 1)) _ _ _ hP hS (lv_sub hl [2, 1, 0] rfl) (itK_inl hz1)
      · obtain ⟨w1, h, e⟩ := mS h
        rw [← e] at hz1
        replace e := itK_inr hz1
        rw [e] at h
        exact J27 (M) (v1) _ _ _ hP hS (lv_sub hl [0, 1] rfl) h
  unfold fX7_mixNodes at h
  refine lv_iconst (v := 0) C.1 C.2.1 dX7_mixNodes_0 (by decide) ?_
  refine lv_istore_n (lv' := [(1, .int 0), (0, .ref a0)]) C.1 C.2.1 dX7_mixNodes_1 rfl hl (by decide) rfl (fun ls hl => ?_)
  refine lv_iconst (v := 0) C.1 C.2.1 dX7_mixNodes_2 (by decide) ?_
  refine lv_istore_n (lv' := [(2, .int 0), (1, .int 0), (0, .ref a0)]) C.1 C.2.1 dX7_mixNodes_3 rfl hl (by decide) rfl (fun ls hl => ?_)
  exact J4 (M) n (0) (0) _ _ _ hP hS (lv_sub hl [2, 1, 0] rfl) h
theorem dX7_checksum_0 : decode cX7_checksum 0 = .ok (.aload_n 0, 1) := by decide +kernel
theorem dX7_checksum_1 : decode cX7_checksum 1 = .ok (.iconst 0, 1) := by decide +kernel
theorem dX7_checksum_2 : decode cX7_checksum 2 = .ok (.putfield 29, 3) := by decide +kernel
theorem dX7_checksum_5 : decode cX7_checksum 5 = .ok (.aload_n 0, 1) := by decide +kernel
theorem dX7_checksum_6 : decode cX7_checksum 6 = .ok (.ldc2_w 229, 3) := by decide +kernel
theorem dX7_checksum_9 : decode cX7_checksum 9 = .ok (.putfield 221, 3) := by decide +kernel
theorem dX7_checksum_12 : decode cX7_checksum 12 = .ok (.aload_n 0, 1) := by decide +kernel
theorem dX7_checksum_13 : decode cX7_checksum 13 = .ok (.invokevirtual 231, 3) := by decide +kernel
theorem dX7_checksum_16 : decode cX7_checksum 16 = .ok (.aload_n 0, 1) := by decide +kernel
theorem dX7_checksum_17 : decode cX7_checksum 17 = .ok (.aload_n 0, 1) := by decide +kernel
theorem dX7_checksum_18 : decode cX7_checksum 18 = .ok (.invokevirtual 176, 3) := by decide +kernel
theorem dX7_checksum_21 : decode cX7_checksum 21 = .ok (.i2l, 1) := by decide +kernel
theorem dX7_checksum_22 : decode cX7_checksum 22 = .ok (.invokevirtual 225, 3) := by decide +kernel
theorem dX7_checksum_25 : decode cX7_checksum 25 = .ok (.aload_n 0, 1) := by decide +kernel
theorem dX7_checksum_26 : decode cX7_checksum 26 = .ok (.aload_n 0, 1) := by decide +kernel
theorem dX7_checksum_27 : decode cX7_checksum 27 = .ok (.invokevirtual 164, 3) := by decide +kernel
theorem dX7_checksum_30 : decode cX7_checksum 30 = .ok (.i2l, 1) := by decide +kernel
theorem dX7_checksum_31 : decode cX7_checksum 31 = .ok (.invokevirtual 225, 3) := by decide +kernel
theorem dX7_checksum_34 : decode cX7_checksum 34 = .ok (.aload_n 0, 1) := by decide +kernel
theorem dX7_checksum_35 : decode cX7_checksum 35 = .ok (.invokevirtual 173, 3) := by decide +kernel
theorem dX7_checksum_38 : decode cX7_checksum 38 = .ok (.iconst 0, 1) := by decide +kernel
theorem dX7_checksum_39 : decode cX7_checksum 39 = .ok (.istore_n 1, 1) := by decide +kernel
theorem dX7_checksum_40 : decode cX7_checksum 40 = .ok (.iload_n 1, 1) := by decide +kernel
theorem dX7_checksum_41 : decode cX7_checksum 41 = .ok (.aload_n 0, 1) := by decide +kernel
theorem dX7_checksum_42 : decode cX7_checksum 42 = .ok (.getfield 167, 3) := by decide +kernel
theorem dX7_checksum_45 : decode cX7_checksum 45 = .ok (.if_icmp .ge 20, 3) := by decide +kernel
theorem dX7_checksum_48 : decode cX7_checksum 48 = .ok (.aload_n 0, 1) := by decide +kernel
theorem dX7_checksum_49 : decode cX7_checksum 49 = .ok (.aload_n 0, 1) := by decide +kernel
theorem dX7_checksum_50 : decode cX7_checksum 50 = .ok (.getfield 26, 3) := by decide +kernel
theorem dX7_checksum_53 : decode cX7_checksum 53 = .ok (.iload_n 1, 1) := by decide +kernel
theorem dX7_checksum_54 : decode cX7_checksum 54 = .ok (.iaload, 1) := by decide +kernel
theorem dX7_checksum_55 : decode cX7_checksum 55 = .ok (.i2l, 1) := by decide +kernel
theorem dX7_checksum_56 : decode cX7_checksum 56 = .ok (.invokevirtual 225, 3) := by decide +kernel
theorem dX7_checksum_59 : decode cX7_checksum 59 = .ok (.iinc 1 1, 3) := by decide +kernel
theorem dX7_checksum_62 : decode cX7_checksum 62 = .ok (.goto (-22), 3) := by decide +kernel
theorem dX7_checksum_65 : decode cX7_checksum 65 = .ok (.aload_n 0, 1) := by decide +kernel
theorem dX7_checksum_66 : decode cX7_checksum 66 = .ok (.aload_n 0, 1) := by decide +kernel
theorem dX7_checksum_67 : decode cX7_checksum 67 = .ok (.getfield 7, 3) := by decide +kernel
theorem dX7_checksum_70 : decode cX7_checksum 70 = .ok (.sipush 720, 3) := by decide +kernel
theorem dX7_checksum_73 : decode cX7_checksum 73 = .ok (.iaload, 1) := by decide +kernel
theorem dX7_checksum_74 : decode cX7_checksum 74 = .ok (.i2l, 1) := by decide +kernel
theorem dX7_checksum_75 : decode cX7_checksum 75 = .ok (.invokevirtual 225, 3) := by decide +kernel
theorem dX7_checksum_78 : decode cX7_checksum 78 = .ok (.iconst 0, 1) := by decide +kernel
theorem dX7_checksum_79 : decode cX7_checksum 79 = .ok (.istore_n 1, 1) := by decide +kernel
theorem dX7_checksum_80 : decode cX7_checksum 80 = .ok (.iload_n 1, 1) := by decide +kernel
theorem dX7_checksum_81 : decode cX7_checksum 81 = .ok (.aload_n 0, 1) := by decide +kernel
theorem dX7_checksum_82 : decode cX7_checksum 82 = .ok (.getfield 7, 3) := by decide +kernel
theorem dX7_checksum_85 : decode cX7_checksum 85 = .ok (.sipush 720, 3) := by decide +kernel
theorem dX7_checksum_88 : decode cX7_checksum 88 = .ok (.iaload, 1) := by decide +kernel
theorem dX7_checksum_89 : decode cX7_checksum 89 = .ok (.if_icmp .ge 50, 3) := by decide +kernel
theorem dX7_checksum_92 : decode cX7_checksum 92 = .ok (.iconst 0, 1) := by decide +kernel
theorem dX7_checksum_93 : decode cX7_checksum 93 = .ok (.istore_n 2, 1) := by decide +kernel
theorem dX7_checksum_94 : decode cX7_checksum 94 = .ok (.iload_n 2, 1) := by decide +kernel
theorem dX7_checksum_95 : decode cX7_checksum 95 = .ok (.iconst 4, 1) := by decide +kernel
theorem dX7_checksum_96 : decode cX7_checksum 96 = .ok (.aload_n 0, 1) := by decide +kernel
theorem dX7_checksum_97 : decode cX7_checksum 97 = .ok (.getfield 7, 3) := by decide +kernel
theorem dX7_checksum_100 : decode cX7_checksum 100 = .ok (.iload_n 1, 1) := by decide +kernel
theorem dX7_checksum_101 : decode cX7_checksum 101 = .ok (.invokestatic 100, 3) := by decide +kernel
theorem dX7_checksum_104 : decode cX7_checksum 104 = .ok (.iconst 3, 1) := by decide +kernel
theorem dX7_checksum_105 : decode cX7_checksum 105 = .ok (.iadd, 1) := by decide +kernel
theorem dX7_checksum_106 : decode cX7_checksum 106 = .ok (.iaload, 1) := by decide +kernel
theorem dX7_checksum_107 : decode cX7_checksum 107 = .ok (.iadd, 1) := by decide +kernel
theorem dX7_checksum_108 : decode cX7_checksum 108 = .ok (.if_icmp .ge 25, 3) := by decide +kernel
theorem dX7_checksum_111 : decode cX7_checksum 111 = .ok (.aload_n 0, 1) := by decide +kernel
theorem dX7_checksum_112 : decode cX7_checksum 112 = .ok (.aload_n 0, 1) := by decide +kernel
theorem dX7_checksum_113 : decode cX7_checksum 113 = .ok (.getfield 7, 3) := by decide +kernel
theorem dX7_checksum_116 : decode cX7_checksum 116 = .ok (.iload_n 1, 1) := by decide +kernel
theorem dX7_checksum_117 : decode cX7_checksum 117 = .ok (.invokestatic 100, 3) := by decide +kernel
theorem dX7_checksum_120 : decode cX7_checksum 120 = .ok (.iload_n 2, 1) := by decide +kernel
theorem dX7_checksum_121 : decode cX7_checksum 121 = .ok (.iadd, 1) := by decide +kernel
theorem dX7_checksum_122 : decode cX7_checksum 122 = .ok (.iaload, 1) := by decide +kernel
theorem dX7_checksum_123 : decode cX7_checksum 123 = .ok (.i2l, 1) := by decide +kernel
theorem dX7_checksum_124 : decode cX7_checksum 124 = .ok (.invokevirtual 225, 3) := by decide +kernel
theorem dX7_checksum_127 : decode cX7_checksum 127 = .ok (.iinc 2 1, 3) := by decide +kernel
theorem dX7_checksum_130 : decode cX7_checksum 130 = .ok (.goto (-36), 3) := by decide +kernel
theorem dX7_checksum_133 : decode cX7_checksum 133 = .ok (.iinc 1 1, 3) := by decide +kernel
theorem dX7_checksum_136 : decode cX7_checksum 136 = .ok (.goto (-56), 3) := by decide +kernel
theorem dX7_checksum_139 : decode cX7_checksum 139 = .ok (.iconst 0, 1) := by decide +kernel
theorem dX7_checksum_140 : decode cX7_checksum 140 = .ok (.istore_n 1, 1) := by decide +kernel
theorem dX7_checksum_141 : decode cX7_checksum 141 = .ok (.iload_n 1, 1) := by decide +kernel
theorem dX7_checksum_142 : decode cX7_checksum 142 = .ok (.aload_n 0, 1) := by decide +kernel
theorem dX7_checksum_143 : decode cX7_checksum 143 = .ok (.getfield 7, 3) := by decide +kernel
theorem dX7_checksum_146 : decode cX7_checksum 146 = .ok (.sipush 3161, 3) := by decide +kernel
theorem dX7_checksum_149 : decode cX7_checksum 149 = .ok (.iaload, 1) := by decide +kernel
theorem dX7_checksum_150 : decode cX7_checksum 150 = .ok (.if_icmp .ge 24, 3) := by decide +kernel
theorem dX7_checksum_153 : decode cX7_checksum 153 = .ok (.aload_n 0, 1) := by decide +kernel
theorem dX7_checksum_154 : decode cX7_checksum 154 = .ok (.aload_n 0, 1) := by decide +kernel
theorem dX7_checksum_155 : decode cX7_checksum 155 = .ok (.getfield 7, 3) := by decide +kernel
theorem dX7_checksum_158 : decode cX7_checksum 158 = .ok (.sipush 3162, 3) := by decide +kernel
theorem dX7_checksum_161 : decode cX7_checksum 161 = .ok (.iload_n 1, 1) := by decide +kernel
theorem dX7_checksum_162 : decode cX7_checksum 162 = .ok (.iadd, 1) := by decide +kernel
theorem dX7_checksum_163 : decode cX7_checksum 163 = .ok (.iaload, 1) := by decide +kernel
theorem dX7_checksum_164 : decode cX7_checksum 164 = .ok (.i2l, 1) := by decide +kernel
theorem dX7_checksum_165 : decode cX7_checksum 165 = .ok (.invokevirtual 225, 3) := by decide +kernel
theorem dX7_checksum_168 : decode cX7_checksum 168 = .ok (.iinc 1 1, 3) := by decide +kernel
theorem dX7_checksum_171 : decode cX7_checksum 171 = .ok (.goto (-30), 3) := by decide +kernel
theorem dX7_checksum_174 : decode cX7_checksum 174 = .ok (.aload_n 0, 1) := by decide +kernel
theorem dX7_checksum_175 : decode cX7_checksum 175 = .ok (.aload_n 0, 1) := by decide +kernel
theorem dX7_checksum_176 : decode cX7_checksum 176 = .ok (.getfield 158, 3) := by decide +kernel
theorem dX7_checksum_179 : decode cX7_checksum 179 = .ok (.i2l, 1) := by decide +kernel
theorem dX7_checksum_180 : decode cX7_checksum 180 = .ok (.invokevirtual 225, 3) := by decide +kernel
theorem dX7_checksum_183 : decode cX7_checksum 183 = .ok (.aload_n 0, 1) := by decide +kernel
theorem dX7_checksum_184 : decode cX7_checksum 184 = .ok (.aload_n 0, 1) := by decide +kernel
theorem dX7_checksum_185 : decode cX7_checksum 185 = .ok (.getfield 33, 3) := by decide +kernel
theorem dX7_checksum_188 : decode cX7_checksum 188 = .ok (.i2l, 1) := by decide +kernel
theorem dX7_checksum_189 : decode cX7_checksum 189 = .ok (.invokevirtual 225, 3) := by decide +kernel
theorem dX7_checksum_192 : decode cX7_checksum 192 = .ok (.aload_n 0, 1) := by decide +kernel
theorem dX7_checksum_193 : decode cX7_checksum 193 = .ok (.getfield 221, 3) := by decide +kernel
theorem dX7_checksum_196 : decode cX7_checksum 196 = .ok (.lreturn, 1) := by decide +kernel
abbrev rmX7_checksum : Room := { frames := 10, cells := 0, slots := 0, locals := 243 }
noncomputable def fX7_checksum_174 (n : Nat) (Sh : Sp) (a0 : Nat) (M : Mm) : Option (Int64 × Mm) :=
  tI M a0 4 fun x1 =>
  (fX7_mix n Sh M a0 (Int32.toInt64 x1)).bind fun r2 =>
  tI r2 a0 2 fun x3 =>
  (fX7_mix n Sh r2 a0 (Int32.toInt64 x3)).bind fun r4 =>
  tL r4 a0 11 fun y5 =>
  some (y5, r4)
noncomputable def fX7_checksum_141b (n : Nat) (Sh : Sp) (a0 : Nat) (M : Mm) (v1 : Int32) : Option ((Int32 × Mm) ⊕ (Int64 × Mm)) :=
  tF M a0 0 fun b6 =>
  aI Sh M b6 0 3161 fun x7 =>
  if v1 < x7 then
    tF M a0 0 fun b8 =>
    aI Sh M b8 0 (3162 + v1) fun x9 =>
    (fX7_mix n Sh M a0 (Int32.toInt64 x9)).bind fun r10 =>
    some (Sum.inl ((v1 + 1), r10))
  else
    (fX7_checksum_174 n Sh a0 M).map Sum.inr
noncomputable def fX7_checksum_141 (n : Nat) (Sh : Sp) (a0 : Nat) (M : Mm) (v1 : Int32) : Option (Int64 × Mm) :=
  iter n (fun s => fX7_checksum_141b n Sh a0 s.2 s.1) (v1, M)
noncomputable def fX7_checksum_139 (n : Nat) (Sh : Sp) (a0 : Nat) (M : Mm) : Option (Int64 × Mm) :=
  fX7_checksum_141 n Sh a0 M 0
noncomputable def fX7_checksum_133 (n : Nat) (Sh : Sp) (a0 : Nat) (M : Mm) (v1 : Int32) : Option ((Int32 × Mm) ⊕ (Int64 × Mm)) :=
  some (Sum.inl ((v1 + 1), M))
noncomputable def fX7_checksum_94b (n : Nat) (Sh : Sp) (a0 : Nat) (M : Mm) (v1 : Int32) (v2 : Int32) : Option ((Int32 × Mm) ⊕ ((Int32 × Mm) ⊕ (Int64 × Mm))) :=
  tF M a0 0 fun b11 =>
  (fX7_startOf n Sh M v1).bind fun r12 =>
  aI Sh M b11 0 (r12 + 3) fun x13 =>
  if v2 < (4 + x13) then
    tF M a0 0 fun b14 =>
    (fX7_startOf n Sh M v1).bind fun r15 =>
    aI Sh M b14 0 (r15 + v2) fun x16 =>
    (fX7_mix n Sh M a0 (Int32.toInt64 x16)).bind fun r17 =>
    some (Sum.inl ((v2 + 1), r17))
  else
    (fX7_checksum_133 n Sh a0 M v1).map Sum.inr
noncomputable def fX7_checksum_94 (n : Nat) (Sh : Sp) (a0 : Nat) (M : Mm) (v1 : Int32) (v2 : Int32) : Option ((Int32 × Mm) ⊕ (Int64 × Mm)) :=
  iter n (fun s => fX7_checksum_94b n Sh a0 s.2 v1 s.1) (v2, M)
noncomputable def fX7_checksum_80b (n : Nat) (Sh : Sp) (a0 : Nat) (M : Mm) (v1 : Int32) : Option ((Int32 × Mm) ⊕ (Int64 × Mm)) :=
  tF M a0 0 fun b18 =>
  aI Sh M b18 0 720 fun x19 =>
  if v1 < x19 then
    fX7_checksum_94 n Sh a0 M v1 0
  else
    (fX7_checksum_139 n Sh a0 M).map Sum.inr
noncomputable def fX7_checksum_80 (n : Nat) (Sh : Sp) (a0 : Nat) (M : Mm) (v1 : Int32) : Option (Int64 × Mm) :=
  iter n (fun s => fX7_checksum_80b n Sh a0 s.2 s.1) (v1, M)
noncomputable def fX7_checksum_65 (n : Nat) (Sh : Sp) (a0 : Nat) (M : Mm) : Option (Int64 × Mm) :=
  tF M a0 0 fun b20 =>
  aI Sh M b20 0 720 fun x21 =>
  (fX7_mix n Sh M a0 (Int32.toInt64 x21)).bind fun r22 =>
  fX7_checksum_80 n Sh a0 r22 0
noncomputable def fX7_checksum_40b (n : Nat) (Sh : Sp) (a0 : Nat) (M : Mm) (v1 : Int32) : Option ((Int32 × Mm) ⊕ (Int64 × Mm)) :=
  tI M a0 10 fun x23 =>
  if v1 < x23 then
    tF M a0 9 fun b24 =>
    aI Sh M b24 0 v1 fun x25 =>
    (fX7_mix n Sh M a0 (Int32.toInt64 x25)).bind fun r26 =>
    some (Sum.inl ((v1 + 1), r26))
  else
    (fX7_checksum_65 n Sh a0 M).map Sum.inr
noncomputable def fX7_checksum_40 (n : Nat) (Sh : Sp) (a0 : Nat) (M : Mm) (v1 : Int32) : Option (Int64 × Mm) :=
  iter n (fun s => fX7_checksum_40b n Sh a0 s.2 s.1) (v1, M)
noncomputable def fX7_checksum (n : Nat) (Sh : Sp) (M : Mm) (a0 : Nat) : Option (Int64 × Mm) :=
  qI M a0 5 0 fun M27 =>
  qL M27 a0 11 (18379 : Int64) fun M28 =>
  (fX7_mixNodes n Sh M28 a0).bind fun r29 =>
  (fX7_focusNow n Sh r29 a0).bind fun r30 =>
  (fX7_mix n Sh r29 a0 (Int32.toInt64 r30)).bind fun r31 =>
  (fX7_trapNow n Sh r31 a0).bind fun r32 =>
  (fX7_mix n Sh r31 a0 (Int32.toInt64 r32)).bind fun r33 =>
  (fX7_layOrder n Sh r33 a0).bind fun r34 =>
  fX7_checksum_40 n Sh a0 r34 0
set_option maxRecDepth 100000 in
set_option maxHeartbeats 4000000 in
theorem kX7_checksum {l : Launch} {G : Gt} {n : Nat} {Sh : Sp} {M : Mm} {a0 : Nat} (hT : Sh a0 = some (.inl 7)) {r : (Int64 × Mm)} (h : fX7_checksum n Sh M a0 = some r) : Ct l yX7_checksum cX7_checksum 3 (some .long) rmX7_checksum G Sh M [.ref a0] (some (.long r.1)) r.2 := by
  refine Ct.of (by decide) (Nat.le_of_ble_eq_true rfl) ?_
  intro p e s m args below meth c ls C hK hX hP hS hb hlk hr hl
  replace hl : lv_has ls 3 [(0, .ref a0)] := hl
  have J174 : ∀ (M : Mm) (H : Heap) (locs : List Loc) (ls : Array Slot), HM G Sh M H → SS G s s.heap.size H locs → lv_has ls 3 [(0, .ref a0)] → fX7_checksum_174 n Sh a0 M = some r → W p l e rmX7_checksum s m args below meth c H locs 0 0 (MQ below (QG G Sh r.2 (some (.long r.1))) args s rmX7_checksum.cells rmX7_checksum.slots (AA G)) (F0 m 174 ls []) := by
    intro M H locs ls hP hS hl h
    unfold fX7_checksum_174 at h
    refine lv_aload_n C.1 C.2.1 dX7_checksum_174 rfl (lv_at hl 0 rfl) ?_
    refine lv_aload_n C.1 C.2.1 dX7_checksum_175 rfl (lv_at hl 0 rfl) ?_
    refine r_tI C hK hP hT cl_7 (k := 4) (by decide) wd_1148 rfl dX7_checksum_176 h (fun x1 h => ?_)
    refine lv_i2l C.1 C.2.1 dX7_checksum_179 rfl ?_
    obtain ⟨r2, hc, h⟩ := bS h
    refine r_V0 C hK hX hb hP hS hl.1 (kX7_mix (hT) hc) hT cl_7 wd_1547 mo_X7_mix wd_1549 wd_73 ⟨Nat.le_of_ble_eq_true rfl, Nat.le_of_ble_eq_true rfl⟩ ⟨Nat.le_of_ble_eq_true rfl, Nat.le_of_ble_eq_true rfl⟩ rfl (rest := []) rfl (Nat.le_of_ble_eq_true rfl) dX7_checksum_180 (fun H locs hP hS => ?_)
    refine lv_aload_n C.1 C.2.1 dX7_checksum_183 rfl (lv_at hl 0 rfl) ?_
    refine lv_aload_n C.1 C.2.1 dX7_checksum_184 rfl (lv_at hl 0 rfl) ?_
    refine r_tI C hK hP hT cl_7 (k := 2) (by decide) wd_1146 rfl dX7_checksum_185 h (fun x3 h => ?_)
    refine lv_i2l C.1 C.2.1 dX7_checksum_188 rfl ?_
    obtain ⟨r4, hc, h⟩ := bS h
    refine r_V0 C hK hX hb hP hS hl.1 (kX7_mix (hT) hc) hT cl_7 wd_1547 mo_X7_mix wd_1549 wd_73 ⟨Nat.le_of_ble_eq_true rfl, Nat.le_of_ble_eq_true rfl⟩ ⟨Nat.le_of_ble_eq_true rfl, Nat.le_of_ble_eq_true rfl⟩ rfl (rest := []) rfl (Nat.le_of_ble_eq_true rfl) dX7_checksum_189 (fun H locs hP hS => ?_)
    refine lv_aload_n C.1 C.2.1 dX7_checksum_192 rfl (lv_at hl 0 rfl) ?_
    refine r_tL C hK hP hT cl_7 (k := 11) (by decide) wd_1155 rfl dX7_checksum_193 h (fun y5 h => ?_)
    have e := Option.some.inj h
    exact q_l C hlk hP hS hr (by rw [← e]) (by rw [← e]) dX7_checksum_196
  have J141 : ∀ (k : Nat) (v1 : Int32) (M : Mm) (H : Heap) (locs : List Loc) (ls : Array Slot), HM G Sh M H → SS G s s.heap.size H locs → lv_has ls 3 [(0, .ref a0), (1, .int v1)] → iter k (fun s => fX7_checksum_141b n Sh a0 s.2 s.1) (v1, M) = some r → W p l e rmX7_checksum s m args below meth c H locs 0 0 (MQ below (QG G Sh r.2 (some (.long r.1))) args s rmX7_checksum.cells rmX7_checksum.slots (AA G)) (F0 m 141 ls []) := by
    intro k
    induction k with
    | zero => intro v1 M H locs ls hP hS hl h; exact (iter_0 h).elim
    | succ k ih1 =>
      intro v1 M H locs ls hP hS hl h
      obtain ⟨z1, h, hz1⟩ := iter_some h
      replace h : fX7_checksum_141b n Sh a0 M v1 = some z1 := h
      unfold fX7_checksum_141b at h
      refine lv_iload_n C.1 C.2.1 dX7_checksum_141 rfl (lv_at hl 1 rfl) ?_
      refine lv_aload_n C.1 C.2.1 dX7_checksum_142 rfl (lv_at hl 0 rfl) ?_
      refine r_tF C hK hP hT cl_7 (k := 0) (by decide) wd_1144 rfl dX7_checksum_143 h (fun b6 h => ?_)
      refine lv_sipush (v := 3161) C.1 C.2.1 dX7_checksum_146 (by decide) ?_
      refine r_aI C hK hP dX7_checksum_149 h (fun x7 h => ?_)
      refine b_ige (tgt := 174) C dX7_checksum_150 (by decide) h (fun h => ?_) (fun h => ?_)
      · refine lv_aload_n C.1 C.2.1 dX7_checksum_153 rfl (lv_at hl 0 rfl) ?_
        refine lv_aload_n C.1 C.2.1 dX7_checksum_154 rfl (lv_at hl 0 rfl) ?_
        refine r_tF C hK hP hT cl_7 (k := 0) (by decide) wd_1144 rfl dX7_checksum_155 h (fun b8 h => ?_)
        refine lv_sipush (v := 3162) C.1 C.2.1 dX7_checksum_158 (by decide) ?_
        refine lv_iload_n C.1 C.2.1 dX7_checksum_161 rfl (lv_at hl 1 rfl) ?_
        refine lv_iadd C.1 C.2.1 dX7_checksum_162 ?_
        refine r_aI C hK hP dX7_checksum_163 h (fun x9 h => ?_)
        refine lv_i2l C.1 C.2.1 dX7_checksum_164 rfl ?_
        obtain ⟨r10, hc, h⟩ := bS h
        refine r_V0 C hK hX hb hP hS hl.1 (kX7_mix (hT) hc) hT cl_7 wd_1547 mo_X7_mix wd_1549 wd_73 ⟨Nat.le_of_ble_eq_true rfl, Nat.le_of_ble_eq_true rfl⟩ ⟨Nat.le_of_ble_eq_true rfl, Nat.le_of_ble_eq_true rfl⟩ rfl (rest := []) rfl (Nat.le_of_ble_eq_true rfl) dX7_checksum_165 (fun H locs hP hS => ?_)
        refine lv_iinc (v := (v1 + 1)) (lv' := [(1, .int (v1 + 1)), (0, .ref a0)]) C.1 C.2.1 dX7_checksum_168 hl (k := 1) rfl rfl (by decide) rfl (fun ls hl => ?_)
        refine lv_goto (tgt := 141) C.1 C.2.1 dX7_checksum_171 (by decide) ?_
        have e := Option.some.inj h
        rw [← e] at hz1
        exact ih1 ((v1 + 1)) r10 _ _ _ hP hS (lv_sub hl [1, 0] rfl) (itK_inl hz1)
      · obtain ⟨w1, h, e⟩ := mS h
        rw [← e] at hz1
        replace e := itK_inr hz1
        rw [e] at h
        exact J174 (M) _ _ _ hP hS (lv_sub hl [0] rfl) h
  have J139 : ∀ (M : Mm) (H : Heap) (locs : List Loc) (ls : Array Slot), HM G Sh M H → SS G s s.heap.size H locs → lv_has ls 3 [(0, .ref a0)] → fX7_checksum_139 n Sh a0 M = some r → W p l e rmX7_checksum s m args below meth c H locs 0 0 (MQ below (QG G Sh r.2 (some (.long r.1))) args s rmX7_checksum.cells rmX7_checksum.slots (AA G)) (F0 m 139 ls []) := by
    intro M H locs ls hP hS hl h
    unfold fX7_checksum_139 at h
    refine lv_iconst (v := 0) C.1 C.2.1 dX7_checksum_139 (by decide) ?_
    refine lv_istore_n (lv' := [(1, .int 0), (0, .ref a0)]) C.1 C.2.1 dX7_checksum_140 rfl hl (by decide) rfl (fun ls hl => ?_)
    exact J141  n (0) M _ _ _ hP hS (lv_sub hl [1, 0] rfl) h
  have J80 : ∀ (k : Nat) (v1 : Int32) (M : Mm) (H : Heap) (locs : List Loc) (ls : Array Slot), HM G Sh M H → SS G s s.heap.size H locs → lv_has ls 3 [(0, .ref a0), (1, .int v1)] → iter k (fun s => fX7_checksum_80b n Sh a0 s.2 s.1) (v1, M) = some r → W p l e rmX7_checksum s m args below meth c H locs 0 0 (MQ below (QG G Sh r.2 (some (.long r.1))) args s rmX7_checksum.cells rmX7_checksum.slots (AA G)) (F0 m 80 ls []) := by
    intro k
    induction k with
    | zero => intro v1 M H locs ls hP hS hl h; exact (iter_0 h).elim
    | succ k ih1 =>
      intro v1 M H locs ls hP hS hl h
      obtain ⟨z1, h, hz1⟩ := iter_some h
      replace h : fX7_checksum_80b n Sh a0 M v1 = some z1 := h
      have J133 : ∀ (M : Mm) (v1 : Int32) (H : Heap) (locs : List Loc) (ls : Array Slot), HM G Sh M H → SS G s s.heap.size H locs → lv_has ls 3 [(0, .ref a0), (1, .int v1)] → fX7_checksum_133 n Sh a0 M v1 = some z1 → W p l e rmX7_checksum s m args below meth c H locs 0 0 (MQ below (QG G Sh r.2 (some (.long r.1))) args s rmX7_checksum.cells rmX7_checksum.slots (AA G)) (F0 m 133 ls []) := by
        intro M v1 H locs ls hP hS hl h
        unfold fX7_checksum_133 at h
        refine lv_iinc (v := (v1 + 1)) (lv' := [(1, .int (v1 + 1)), (0, .ref a0)]) C.1 C.2.1 dX7_checksum_133 hl (k := 1) rfl rfl (by decide) rfl (fun ls hl => ?_)
        refine lv_goto (tgt := 80) C.1 C.2.1 dX7_checksum_136 (by decide) ?_
        have e := Option.some.inj h
        rw [← e] at hz1
        exact ih1 ((v1 + 1)) M _ _ _ hP hS (lv_sub hl [1, 0] rfl) (itK_inl hz1)
      have J94 : ∀ (v1 : Int32), ∀ (k : Nat) (v2 : Int32) (M : Mm) (H : Heap) (locs : List Loc) (ls : Array Slot), HM G Sh M H → SS G s s.heap.size H locs → lv_has ls 3 [(0, .ref a0), (1, .int v1), (2, .int v2)] → iter k (fun s => fX7_checksum_94b n Sh a0 s.2 v1 s.1) (v2, M) = some z1 → W p l e rmX7_checksum s m args below meth c H locs 0 0 (MQ below (QG G Sh r.2 (some (.long r.1))) args s rmX7_checksum.cells rmX7_checksum.slots (AA G)) (F0 m 94 ls []) := by
        intro v1 k
        induction k with
        | zero => intro v2 M H locs ls hP hS hl h; exact (iter_0 h).elim
        | succ k ih2 =>
          intro v2 M H locs ls hP hS hl h
          obtain ⟨z2, h, hz2⟩ := iter_some h
          replace h : fX7_checksum_94b n Sh a0 M v1 v2 = some z2 := h
          unfold fX7_checksum_94b at h
          refine lv_iload_n C.1 C.2.1 dX7_checksum_94 rfl (lv_at hl 2 rfl) ?_
          refine lv_iconst (v := 4) C.1 C.2.1 dX7_checksum_95 (by decide) ?_
          refine lv_aload_n C.1 C.2.1 dX7_checksum_96 rfl (lv_at hl 0 rfl) ?_
          refine r_tF C hK hP hT cl_7 (k := 0) (by decide) wd_1144 rfl dX7_checksum_97 h (fun b11 h => ?_)
          refine lv_iload_n C.1 C.2.1 dX7_checksum_100 rfl (lv_at hl 1 rfl) ?_
          obtain ⟨r12, hc, h⟩ := bS h
          refine r_S1 C hK hX hb hP hS hl.1 (kX7_startOf hc) wd_1237 mo_X7_startOf wd_1238 ⟨Nat.le_of_ble_eq_true rfl, Nat.le_of_ble_eq_true rfl⟩ ⟨Nat.le_of_ble_eq_true rfl, Nat.le_of_ble_eq_true rfl⟩ rfl (rest := [.ref b11, .int 4, .int v2]) rfl (Nat.le_of_ble_eq_true rfl) dX7_checksum_101 (fun H locs hP hS => ?_)
          refine lv_iconst (v := 3) C.1 C.2.1 dX7_checksum_104 (by decide) ?_
          refine lv_iadd C.1 C.2.1 dX7_checksum_105 ?_
          refine r_aI C hK hP dX7_checksum_106 h (fun x13 h => ?_)
          refine lv_iadd C.1 C.2.1 dX7_checksum_107 ?_
          refine b_ige (tgt := 133) C dX7_checksum_108 (by decide) h (fun h => ?_) (fun h => ?_)
          · refine lv_aload_n C.1 C.2.1 dX7_checksum_111 rfl (lv_at hl 0 rfl) ?_
            refine lv_aload_n C.1 C.2.1 dX7_checksum_112 rfl (lv_at hl 0 rfl) ?_
            refine r_tF C hK hP hT cl_7 (k := 0) (by decide) wd_1144 rfl dX7_checksum_113 h (fun b14 h => ?_)
            refine lv_iload_n C.1 C.2.1 dX7_checksum_116 rfl (lv_at hl 1 rfl) ?_
            obtain ⟨r15, hc, h⟩ := bS h
            refine r_S1 C hK hX hb hP hS hl.1 (kX7_startOf hc) wd_1237 mo_X7_startOf wd_1238 ⟨Nat.le_of_ble_eq_true rfl, Nat.le_of_ble_eq_true rfl⟩ ⟨Nat.le_of_ble_eq_true rfl, Nat.le_of_ble_eq_true rfl⟩ rfl (rest := [.ref b14, .ref a0]) rfl (Nat.le_of_ble_eq_true rfl) dX7_checksum_117 (fun H locs hP hS => ?_)
            refine lv_iload_n C.1 C.2.1 dX7_checksum_120 rfl (lv_at hl 2 rfl) ?_
            refine lv_iadd C.1 C.2.1 dX7_checksum_121 ?_
            refine r_aI C hK hP dX7_checksum_122 h (fun x16 h => ?_)
            refine lv_i2l C.1 C.2.1 dX7_checksum_123 rfl ?_
            obtain ⟨r17, hc, h⟩ := bS h
            refine r_V0 C hK hX hb hP hS hl.1 (kX7_mix (hT) hc) hT cl_7 wd_1547 mo_X7_mix wd_1549 wd_73 ⟨Nat.le_of_ble_eq_true rfl, Nat.le_of_ble_eq_true rfl⟩ ⟨Nat.le_of_ble_eq_true rfl, Nat.le_of_ble_eq_true rfl⟩ rfl (rest := []) rfl (Nat.le_of_ble_eq_true rfl) dX7_checksum_124 (fun H locs hP hS => ?_)
            refine lv_iinc (v := (v2 + 1)) (lv' := [(2, .int (v2 + 1)), (0, .ref a0), (1, .int v1)]) C.1 C.2.1 dX7_checksum_127 hl (k := 2) rfl rfl (by decide) rfl (fun ls hl => ?_)
            refine lv_goto (tgt := 94) C.1 C.2.1 dX7_checksum_130 (by decide) ?_
            have e := Option.some.inj h
            rw [← e] at hz2
            exact ih2 ((v2 + 1)) r17 _ _ _ hP hS (lv_sub hl [1, 2, 0] rfl) (itK_inl hz2)
          · obtain ⟨w2, h, e⟩ := mS h
            rw [← e] at hz2
            replace e := itK_inr hz2
            rw [e] at h
            exact J133 (M) (v1) _ _ _ hP hS (lv_sub hl [0, 1] rfl) h
      unfold fX7_checksum_80b at h
      refine lv_iload_n C.1 C.2.1 dX7_checksum_80 rfl (lv_at hl 1 rfl) ?_
      refine lv_aload_n C.1 C.2.1 dX7_checksum_81 rfl (lv_at hl 0 rfl) ?_
      refine r_tF C hK hP hT cl_7 (k := 0) (by decide) wd_1144 rfl dX7_checksum_82 h (fun b18 h => ?_)
      refine lv_sipush (v := 720) C.1 C.2.1 dX7_checksum_85 (by decide) ?_
      refine r_aI C hK hP dX7_checksum_88 h (fun x19 h => ?_)
      refine b_ige (tgt := 139) C dX7_checksum_89 (by decide) h (fun h => ?_) (fun h => ?_)
      · refine lv_iconst (v := 0) C.1 C.2.1 dX7_checksum_92 (by decide) ?_
        refine lv_istore_n (lv' := [(2, .int 0), (0, .ref a0), (1, .int v1)]) C.1 C.2.1 dX7_checksum_93 rfl hl (by decide) rfl (fun ls hl => ?_)
        exact J94 (v1) n (0) M _ _ _ hP hS (lv_sub hl [1, 2, 0] rfl) h
      · obtain ⟨w1, h, e⟩ := mS h
        rw [← e] at hz1
        replace e := itK_inr hz1
        rw [e] at h
        exact J139 (M) _ _ _ hP hS (lv_sub hl [0] rfl) h
  have J65 : ∀ (M : Mm) (H : Heap) (locs : List Loc) (ls : Array Slot), HM G Sh M H → SS G s s.heap.size H locs → lv_has ls 3 [(0, .ref a0)] → fX7_checksum_65 n Sh a0 M = some r → W p l e rmX7_checksum s m args below meth c H locs 0 0 (MQ below (QG G Sh r.2 (some (.long r.1))) args s rmX7_checksum.cells rmX7_checksum.slots (AA G)) (F0 m 65 ls []) := by
    intro M H locs ls hP hS hl h
    unfold fX7_checksum_65 at h
    refine lv_aload_n C.1 C.2.1 dX7_checksum_65 rfl (lv_at hl 0 rfl) ?_
    refine lv_aload_n C.1 C.2.1 dX7_checksum_66 rfl (lv_at hl 0 rfl) ?_
    refine r_tF C hK hP hT cl_7 (k := 0) (by decide) wd_1144 rfl dX7_checksum_67 h (fun b20 h => ?_)
    refine lv_sipush (v := 720) C.1 C.2.1 dX7_checksum_70 (by decide) ?_
    refine r_aI C hK hP dX7_checksum_73 h (fun x21 h => ?_)
    refine lv_i2l C.1 C.2.1 dX7_checksum_74 rfl ?_
    obtain ⟨r22, hc, h⟩ := bS h
    refine r_V0 C hK hX hb hP hS hl.1 (kX7_mix (hT) hc) hT cl_7 wd_1547 mo_X7_mix wd_1549 wd_73 ⟨Nat.le_of_ble_eq_true rfl, Nat.le_of_ble_eq_true rfl⟩ ⟨Nat.le_of_ble_eq_true rfl, Nat.le_of_ble_eq_true rfl⟩ rfl (rest := []) rfl (Nat.le_of_ble_eq_true rfl) dX7_checksum_75 (fun H locs hP hS => ?_)
    refine lv_iconst (v := 0) C.1 C.2.1 dX7_checksum_78 (by decide) ?_
    refine lv_istore_n (lv' := [(1, .int 0), (0, .ref a0)]) C.1 C.2.1 dX7_checksum_79 rfl hl (by decide) rfl (fun ls hl => ?_)
    exact J80  n (0) r22 _ _ _ hP hS (lv_sub hl [1, 0] rfl) h
  have J40 : ∀ (k : Nat) (v1 : Int32) (M : Mm) (H : Heap) (locs : List Loc) (ls : Array Slot), HM G Sh M H → SS G s s.heap.size H locs → lv_has ls 3 [(0, .ref a0), (1, .int v1)] → iter k (fun s => fX7_checksum_40b n Sh a0 s.2 s.1) (v1, M) = some r → W p l e rmX7_checksum s m args below meth c H locs 0 0 (MQ below (QG G Sh r.2 (some (.long r.1))) args s rmX7_checksum.cells rmX7_checksum.slots (AA G)) (F0 m 40 ls []) := by
    intro k
    induction k with
    | zero => intro v1 M H locs ls hP hS hl h; exact (iter_0 h).elim
    | succ k ih1 =>
      intro v1 M H locs ls hP hS hl h
      obtain ⟨z1, h, hz1⟩ := iter_some h
      replace h : fX7_checksum_40b n Sh a0 M v1 = some z1 := h
      unfold fX7_checksum_40b at h
      refine lv_iload_n C.1 C.2.1 dX7_checksum_40 rfl (lv_at hl 1 rfl) ?_
      refine lv_aload_n C.1 C.2.1 dX7_checksum_41 rfl (lv_at hl 0 rfl) ?_
      refine r_tI C hK hP hT cl_7 (k := 10) (by decide) wd_1154 rfl dX7_checksum_42 h (fun x23 h => ?_)
      refine b_ige (tgt := 65) C dX7_checksum_45 (by decide) h (fun h => ?_) (fun h => ?_)
      · refine lv_aload_n C.1 C.2.1 dX7_checksum_48 rfl (lv_at hl 0 rfl) ?_
        refine lv_aload_n C.1 C.2.1 dX7_checksum_49 rfl (lv_at hl 0 rfl) ?_
        refine r_tF C hK hP hT cl_7 (k := 9) (by decide) wd_1153 rfl dX7_checksum_50 h (fun b24 h => ?_)
        refine lv_iload_n C.1 C.2.1 dX7_checksum_53 rfl (lv_at hl 1 rfl) ?_
        refine r_aI C hK hP dX7_checksum_54 h (fun x25 h => ?_)
        refine lv_i2l C.1 C.2.1 dX7_checksum_55 rfl ?_
        obtain ⟨r26, hc, h⟩ := bS h
        refine r_V0 C hK hX hb hP hS hl.1 (kX7_mix (hT) hc) hT cl_7 wd_1547 mo_X7_mix wd_1549 wd_73 ⟨Nat.le_of_ble_eq_true rfl, Nat.le_of_ble_eq_true rfl⟩ ⟨Nat.le_of_ble_eq_true rfl, Nat.le_of_ble_eq_true rfl⟩ rfl (rest := []) rfl (Nat.le_of_ble_eq_true rfl) dX7_checksum_56 (fun H locs hP hS => ?_)
        refine lv_iinc (v := (v1 + 1)) (lv' := [(1, .int (v1 + 1)), (0, .ref a0)]) C.1 C.2.1 dX7_checksum_59 hl (k := 1) rfl rfl (by decide) rfl (fun ls hl => ?_)
        refine lv_goto (tgt := 40) C.1 C.2.1 dX7_checksum_62 (by decide) ?_
        have e := Option.some.inj h
        rw [← e] at hz1
        exact ih1 ((v1 + 1)) r26 _ _ _ hP hS (lv_sub hl [1, 0] rfl) (itK_inl hz1)
      · obtain ⟨w1, h, e⟩ := mS h
        rw [← e] at hz1
        replace e := itK_inr hz1
        rw [e] at h
        exact J65 (M) _ _ _ hP hS (lv_sub hl [0] rfl) h
  unfold fX7_checksum at h
  refine lv_aload_n C.1 C.2.1 dX7_checksum_0 rfl (lv_at hl 0 rfl) ?_
  refine lv_iconst (v := 0) C.1 C.2.1 dX7_checksum_1 (by decide) ?_
  refine r_qI C hK hP hS hT cl_7 (k := 5) (by decide) wd_1149 rfl rfl (tyX7_ok 5 (by decide)) dX7_checksum_2 h (fun M27 H locs h hP hS => ?_)
  refine lv_aload_n C.1 C.2.1 dX7_checksum_5 rfl (lv_at hl 0 rfl) ?_
  refine lv_ldc2 (v := 18379) C.1 C.2.1 C.2.2.2.1 (C.2.2.2.2 _ wd_1542) dX7_checksum_6 ?_
  refine r_qL C hK hP hS hT cl_7 (k := 11) (by decide) wd_1155 rfl rfl (tyX7_ok 11 (by decide)) dX7_checksum_9 h (fun M28 H locs h hP hS => ?_)
  refine lv_aload_n C.1 C.2.1 dX7_checksum_12 rfl (lv_at hl 0 rfl) ?_
  obtain ⟨r29, hc, h⟩ := bS h
  refine r_V0 C hK hX hb hP hS hl.1 (kX7_mixNodes (hT) hc) hT cl_7 wd_1543 mo_X7_mixNodes wd_1545 wd_72 ⟨Nat.le_of_ble_eq_true rfl, Nat.le_of_ble_eq_true rfl⟩ ⟨Nat.le_of_ble_eq_true rfl, Nat.le_of_ble_eq_true rfl⟩ rfl (rest := []) rfl (Nat.le_of_ble_eq_true rfl) dX7_checksum_13 (fun H locs hP hS => ?_)
  refine lv_aload_n C.1 C.2.1 dX7_checksum_16 rfl (lv_at hl 0 rfl) ?_
  refine lv_aload_n C.1 C.2.1 dX7_checksum_17 rfl (lv_at hl 0 rfl) ?_
  obtain ⟨r30, hc, h⟩ := bS h
  refine r_V1 C hK hX hb hP hS hl.1 (kX7_focusNow (hT) hc) hT cl_7 wd_1406 mo_X7_focusNow wd_1408 wd_59 ⟨Nat.le_of_ble_eq_true rfl, Nat.le_of_ble_eq_true rfl⟩ ⟨Nat.le_of_ble_eq_true rfl, Nat.le_of_ble_eq_true rfl⟩ rfl (rest := [.ref a0]) rfl (Nat.le_of_ble_eq_true rfl) dX7_checksum_18 (fun H locs hP hS => ?_)
  refine lv_i2l C.1 C.2.1 dX7_checksum_21 rfl ?_
  obtain ⟨r31, hc, h⟩ := bS h
  refine r_V0 C hK hX hb hP hS hl.1 (kX7_mix (hT) hc) hT cl_7 wd_1547 mo_X7_mix wd_1549 wd_73 ⟨Nat.le_of_ble_eq_true rfl, Nat.le_of_ble_eq_true rfl⟩ ⟨Nat.le_of_ble_eq_true rfl, Nat.le_of_ble_eq_true rfl⟩ rfl (rest := []) rfl (Nat.le_of_ble_eq_true rfl) dX7_checksum_22 (fun H locs hP hS => ?_)
  refine lv_aload_n C.1 C.2.1 dX7_checksum_25 rfl (lv_at hl 0 rfl) ?_
  refine lv_aload_n C.1 C.2.1 dX7_checksum_26 rfl (lv_at hl 0 rfl) ?_
  obtain ⟨r32, hc, h⟩ := bS h
  refine r_V1 C hK hX hb hP hS hl.1 (kX7_trapNow (hT) hc) hT cl_7 wd_1390 mo_X7_trapNow wd_1392 wd_57 ⟨Nat.le_of_ble_eq_true rfl, Nat.le_of_ble_eq_true rfl⟩ ⟨Nat.le_of_ble_eq_true rfl, Nat.le_of_ble_eq_true rfl⟩ rfl (rest := [.ref a0]) rfl (Nat.le_of_ble_eq_true rfl) dX7_checksum_27 (fun H locs hP hS => ?_)
  refine lv_i2l C.1 C.2.1 dX7_checksum_30 rfl ?_
  obtain ⟨r33, hc, h⟩ := bS h
  refine r_V0 C hK hX hb hP hS hl.1 (kX7_mix (hT) hc) hT cl_7 wd_1547 mo_X7_mix wd_1549 wd_73 ⟨Nat.le_of_ble_eq_true rfl, Nat.le_of_ble_eq_true rfl⟩ ⟨Nat.le_of_ble_eq_true rfl, Nat.le_of_ble_eq_true rfl⟩ rfl (rest := []) rfl (Nat.le_of_ble_eq_true rfl) dX7_checksum_31 (fun H locs hP hS => ?_)
  refine lv_aload_n C.1 C.2.1 dX7_checksum_34 rfl (lv_at hl 0 rfl) ?_
  obtain ⟨r34, hc, h⟩ := bS h
  refine r_V0 C hK hX hb hP hS hl.1 (kX7_layOrder (hT) hc) hT cl_7 wd_1398 mo_X7_layOrder wd_1400 wd_58 ⟨Nat.le_of_ble_eq_true rfl, Nat.le_of_ble_eq_true rfl⟩ ⟨Nat.le_of_ble_eq_true rfl, Nat.le_of_ble_eq_true rfl⟩ rfl (rest := []) rfl (Nat.le_of_ble_eq_true rfl) dX7_checksum_35 (fun H locs hP hS => ?_)
  refine lv_iconst (v := 0) C.1 C.2.1 dX7_checksum_38 (by decide) ?_
  refine lv_istore_n (lv' := [(1, .int 0), (0, .ref a0)]) C.1 C.2.1 dX7_checksum_39 rfl hl (by decide) rfl (fun ls hl => ?_)
  exact J40  n (0) r34 _ _ _ hP hS (lv_sub hl [1, 0] rfl) h
