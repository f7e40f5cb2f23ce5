theorem dX7_isCell_0 : decode cX7_isCell 0 = .ok (.aload_n 0, 1) := by decide +kernel
theorem dX7_isCell_1 : decode cX7_isCell 1 = .ok (.iload_n 1, 1) := by decide +kernel
theorem dX7_isCell_2 : decode cX7_isCell 2 = .ok (.iconst 1, 1) := by decide +kernel
theorem dX7_isCell_3 : decode cX7_isCell 3 = .ok (.invokevirtual 40, 3) := by decide +kernel
theorem dX7_isCell_6 : decode cX7_isCell 6 = .ok (.istore_n 2, 1) := by decide +kernel
theorem dX7_isCell_7 : decode cX7_isCell 7 = .ok (.aload_n 0, 1) := by decide +kernel
theorem dX7_isCell_8 : decode cX7_isCell 8 = .ok (.iload_n 1, 1) := by decide +kernel
theorem dX7_isCell_9 : decode cX7_isCell 9 = .ok (.invokevirtual 188, 3) := by decide +kernel
theorem dX7_isCell_12 : decode cX7_isCell 12 = .ok (.ifCond .eq 38, 3) := by decide +kernel
theorem dX7_isCell_15 : decode cX7_isCell 15 = .ok (.iload_n 2, 1) := by decide +kernel
theorem dX7_isCell_16 : decode cX7_isCell 16 = .ok (.ifCond .le 34, 3) := by decide +kernel
theorem dX7_isCell_19 : decode cX7_isCell 19 = .ok (.aload_n 0, 1) := by decide +kernel
theorem dX7_isCell_20 : decode cX7_isCell 20 = .ok (.iload_n 2, 1) := by decide +kernel
theorem dX7_isCell_21 : decode cX7_isCell 21 = .ok (.iconst 3, 1) := by decide +kernel
theorem dX7_isCell_22 : decode cX7_isCell 22 = .ok (.invokevirtual 40, 3) := by decide +kernel
theorem dX7_isCell_25 : decode cX7_isCell 25 = .ok (.bipush 8, 2) := by decide +kernel
theorem dX7_isCell_27 : decode cX7_isCell 27 = .ok (.if_icmp .ne 23, 3) := by decide +kernel
theorem dX7_isCell_30 : decode cX7_isCell 30 = .ok (.aload_n 0, 1) := by decide +kernel
theorem dX7_isCell_31 : decode cX7_isCell 31 = .ok (.aload_n 0, 1) := by decide +kernel
theorem dX7_isCell_32 : decode cX7_isCell 32 = .ok (.iload_n 2, 1) := by decide +kernel
theorem dX7_isCell_33 : decode cX7_isCell 33 = .ok (.iconst 1, 1) := by decide +kernel
theorem dX7_isCell_34 : decode cX7_isCell 34 = .ok (.invokevirtual 40, 3) := by decide +kernel
theorem dX7_isCell_37 : decode cX7_isCell 37 = .ok (.iconst 3, 1) := by decide +kernel
theorem dX7_isCell_38 : decode cX7_isCell 38 = .ok (.invokevirtual 40, 3) := by decide +kernel
theorem dX7_isCell_41 : decode cX7_isCell 41 = .ok (.bipush 7, 2) := by decide +kernel
theorem dX7_isCell_43 : decode cX7_isCell 43 = .ok (.if_icmp .ne 7, 3) := by decide +kernel
theorem dX7_isCell_46 : decode cX7_isCell 46 = .ok (.iconst 1, 1) := by decide +kernel
theorem dX7_isCell_47 : decode cX7_isCell 47 = .ok (.goto 4, 3) := by decide +kernel
theorem dX7_isCell_50 : decode cX7_isCell 50 = .ok (.iconst 0, 1) := by decide +kernel
theorem dX7_isCell_51 : decode cX7_isCell 51 = .ok (.ireturn, 1) := by decide +kernel
abbrev rmX7_isCell : Room := { frames := 3, cells := 0, slots := 0, locals := 83 }
noncomputable def fX7_isCell (n : Nat) (Sh : Sp) (M : Mm) (a0 : Nat) (a1 : Int32) : Option Int32 :=
  (fX7_of n Sh M a0 a1 1).bind fun r1 =>
  (fX7_isCellRole n Sh M a0 a1).bind fun r2 =>
  if r2 = 0 then
    some 0
  else
    if r1 ≤ 0 then
      some 0
    else
      (fX7_of n Sh M a0 r1 3).bind fun r3 =>
      if r3 = 8 then
        (fX7_of n Sh M a0 r1 1).bind fun r4 =>
        (fX7_of n Sh M a0 r4 3).bind fun r5 =>
        if r5 = 7 then
          some 1
        else
          some 0
      else
        some 0
set_option maxRecDepth 100000 in
set_option maxHeartbeats 4000000 in
theorem kX7_isCell {l : Launch} {G : Gt} {n : Nat} {Sh : Sp} {M : Mm} {a0 : Nat} {a1 : Int32} (hT : Sh a0 = some (.inl 7)) {r : Int32} (h : fX7_isCell n Sh M a0 a1 = some r) : Ct l yX7_isCell cX7_isCell 3 (some .boolean) rmX7_isCell G Sh M [.ref a0, .int a1] (some (.int r)) M := by
  refine Ct.of (by decide) (Nat.le_of_ble_eq_true rfl) ?_
  intro p e s m args below meth c ls C hK hX hP hS hb hlk hr hl
  replace hl : lv_has ls 3 [(0, .ref a0), (1, .int a1)] := hl
  unfold fX7_isCell at h
  refine lv_aload_n C.1 C.2.1 dX7_isCell_0 rfl (lv_at hl 0 rfl) ?_
  refine lv_iload_n C.1 C.2.1 dX7_isCell_1 rfl (lv_at hl 1 rfl) ?_
  refine lv_iconst (v := 1) C.1 C.2.1 dX7_isCell_2 (by decide) ?_
  obtain ⟨r1, hc, h⟩ := bS h
  refine r_V1 C hK hX hb hP hS hl.1 (kX7_of (hT) hc) hT cl_7 wd_1197 mo_X7_of wd_1199 wd_24 ⟨Nat.le_of_ble_eq_true rfl, Nat.le_of_ble_eq_true rfl⟩ ⟨Nat.le_of_ble_eq_true rfl, Nat.le_of_ble_eq_true rfl⟩ rfl (rest := []) rfl (Nat.le_of_ble_eq_true rfl) dX7_isCell_3 (fun H locs hP hS => ?_)
  refine lv_istore_n (lv' := [(2, .int r1), (0, .ref a0), (1, .int a1)]) C.1 C.2.1 dX7_isCell_6 rfl hl (by decide) rfl (fun ls hl => ?_)
  refine lv_aload_n C.1 C.2.1 dX7_isCell_7 rfl (lv_at hl 1 rfl) ?_
  refine lv_iload_n C.1 C.2.1 dX7_isCell_8 rfl (lv_at hl 2 rfl) ?_
  obtain ⟨r2, hc, h⟩ := bS h
  refine r_V1 C hK hX hb hP hS hl.1 (kX7_isCellRole (hT) hc) hT cl_7 wd_1478 mo_X7_isCellRole wd_1480 wd_64 ⟨Nat.le_of_ble_eq_true rfl, Nat.le_of_ble_eq_true rfl⟩ ⟨Nat.le_of_ble_eq_true rfl, Nat.le_of_ble_eq_true rfl⟩ rfl (rest := []) rfl (Nat.le_of_ble_eq_true rfl) dX7_isCell_9 (fun H locs hP hS => ?_)
  refine b_eq (tgt := 50) C dX7_isCell_12 (by decide) h (fun h => ?_) (fun h => ?_)
  · refine lv_iconst (v := 0) C.1 C.2.1 dX7_isCell_50 (by decide) ?_
    have e := Option.some.inj h
    exact q_z C hlk hP hS hr (by decide) (by rw [← e]) rfl dX7_isCell_51
  · refine lv_iload_n C.1 C.2.1 dX7_isCell_15 rfl (lv_at hl 0 rfl) ?_
    refine b_le (tgt := 50) C dX7_isCell_16 (by decide) h (fun h => ?_) (fun h => ?_)
    · refine lv_iconst (v := 0) C.1 C.2.1 dX7_isCell_50 (by decide) ?_
      have e := Option.some.inj h
      exact q_z C hlk hP hS hr (by decide) (by rw [← e]) rfl dX7_isCell_51
    · refine lv_aload_n C.1 C.2.1 dX7_isCell_19 rfl (lv_at hl 1 rfl) ?_
      refine lv_iload_n C.1 C.2.1 dX7_isCell_20 rfl (lv_at hl 0 rfl) ?_
      refine lv_iconst (v := 3) C.1 C.2.1 dX7_isCell_21 (by decide) ?_
      obtain ⟨r3, hc, h⟩ := bS h
      refine r_V1 C hK hX hb hP hS hl.1 (kX7_of (hT) hc) hT cl_7 wd_1197 mo_X7_of wd_1199 wd_24 ⟨Nat.le_of_ble_eq_true rfl, Nat.le_of_ble_eq_true rfl⟩ ⟨Nat.le_of_ble_eq_true rfl, Nat.le_of_ble_eq_true rfl⟩ rfl (rest := []) rfl (Nat.le_of_ble_eq_true rfl) dX7_isCell_22 (fun H locs hP hS => ?_)
      refine lv_bipush (v := 8) C.1 C.2.1 dX7_isCell_25 (by decide) ?_
      refine b_ine (tgt := 50) C dX7_isCell_27 (by decide) h (fun h => ?_) (fun h => ?_)
      · refine lv_aload_n C.1 C.2.1 dX7_isCell_30 rfl (lv_at hl 1 rfl) ?_
        refine lv_aload_n C.1 C.2.1 dX7_isCell_31 rfl (lv_at hl 1 rfl) ?_
        refine lv_iload_n C.1 C.2.1 dX7_isCell_32 rfl (lv_at hl 0 rfl) ?_
        refine lv_iconst (v := 1) C.1 C.2.1 dX7_isCell_33 (by decide) ?_
        obtain ⟨r4, hc, h⟩ := bS h
        refine r_V1 C hK hX hb hP hS hl.1 (kX7_of (hT) hc) hT cl_7 wd_1197 mo_X7_of wd_1199 wd_24 ⟨Nat.le_of_ble_eq_true rfl, Nat.le_of_ble_eq_true rfl⟩ ⟨Nat.le_of_ble_eq_true rfl, Nat.le_of_ble_eq_true rfl⟩ rfl (rest := [.ref a0]) rfl (Nat.le_of_ble_eq_true rfl) dX7_isCell_34 (fun H locs hP hS => ?_)
        refine lv_iconst (v := 3) C.1 C.2.1 dX7_isCell_37 (by decide) ?_
        obtain ⟨r5, hc, h⟩ := bS h
        refine r_V1 C hK hX hb hP hS hl.1 (kX7_of (hT) hc) hT cl_7 wd_1197 mo_X7_of wd_1199 wd_24 ⟨Nat.le_of_ble_eq_true rfl, Nat.le_of_ble_eq_true rfl⟩ ⟨Nat.le_of_ble_eq_true rfl, Nat.le_of_ble_eq_true rfl⟩ rfl (rest := []) rfl (Nat.le_of_ble_eq_true rfl) dX7_isCell_38 (fun H locs hP hS => ?_)
        refine lv_bipush (v := 7) C.1 C.2.1 dX7_isCell_41 (by decide) ?_
        refine b_ine (tgt := 50) C dX7_isCell_43 (by decide) h (fun h => ?_) (fun h => ?_)
        · refine lv_iconst (v := 1) C.1 C.2.1 dX7_isCell_46 (by decide) ?_
          refine lv_goto (tgt := 51) C.1 C.2.1 dX7_isCell_47 (by decide) ?_
          have e := Option.some.inj h
          exact q_z C hlk hP hS hr (by decide) (by rw [← e]) rfl dX7_isCell_51
        · refine lv_iconst (v := 0) C.1 C.2.1 dX7_isCell_50 (by decide) ?_
          have e := Option.some.inj h
          exact q_z C hlk hP hS hr (by decide) (by rw [← e]) rfl dX7_isCell_51
      · refine lv_iconst (v := 0) C.1 C.2.1 dX7_isCell_50 (by decide) ?_
        have e := Option.some.inj h
        exact q_z C hlk hP hS hr (by decide) (by rw [← e]) rfl dX7_isCell_51
theorem dX7_numberOf_0 : decode cX7_numberOf 0 = .ok (.iconst 0, 1) := by decide +kernel
theorem dX7_numberOf_1 : decode cX7_numberOf 1 = .ok (.istore_n 3, 1) := by decide +kernel
theorem dX7_numberOf_2 : decode cX7_numberOf 2 = .ok (.iconst 0, 1) := by decide +kernel
theorem dX7_numberOf_3 : decode cX7_numberOf 3 = .ok (.istore 4, 2) := by decide +kernel
theorem dX7_numberOf_5 : decode cX7_numberOf 5 = .ok (.iload 4, 2) := by decide +kernel
theorem dX7_numberOf_7 : decode cX7_numberOf 7 = .ok (.aload_n 0, 1) := by decide +kernel
theorem dX7_numberOf_8 : decode cX7_numberOf 8 = .ok (.iload_n 1, 1) := by decide +kernel
theorem dX7_numberOf_9 : decode cX7_numberOf 9 = .ok (.iconst 2, 1) := by decide +kernel
theorem dX7_numberOf_10 : decode cX7_numberOf 10 = .ok (.invokevirtual 40, 3) := by decide +kernel
theorem dX7_numberOf_13 : decode cX7_numberOf 13 = .ok (.if_icmp .ge 59, 3) := by decide +kernel
theorem dX7_numberOf_16 : decode cX7_numberOf 16 = .ok (.aload_n 0, 1) := by decide +kernel
theorem dX7_numberOf_17 : decode cX7_numberOf 17 = .ok (.aload_n 0, 1) := by decide +kernel
theorem dX7_numberOf_18 : decode cX7_numberOf 18 = .ok (.iload_n 1, 1) := by decide +kernel
theorem dX7_numberOf_19 : decode cX7_numberOf 19 = .ok (.iconst 1, 1) := by decide +kernel
theorem dX7_numberOf_20 : decode cX7_numberOf 20 = .ok (.invokevirtual 40, 3) := by decide +kernel
theorem dX7_numberOf_23 : decode cX7_numberOf 23 = .ok (.iload 4, 2) := by decide +kernel
theorem dX7_numberOf_25 : decode cX7_numberOf 25 = .ok (.invokevirtual 44, 3) := by decide +kernel
theorem dX7_numberOf_28 : decode cX7_numberOf 28 = .ok (.istore 5, 2) := by decide +kernel
theorem dX7_numberOf_30 : decode cX7_numberOf 30 = .ok (.iload_n 3, 1) := by decide +kernel
theorem dX7_numberOf_31 : decode cX7_numberOf 31 = .ok (.iload_n 2, 1) := by decide +kernel
theorem dX7_numberOf_32 : decode cX7_numberOf 32 = .ok (.ifCond .eq 15, 3) := by decide +kernel
theorem dX7_numberOf_35 : decode cX7_numberOf 35 = .ok (.aload_n 0, 1) := by decide +kernel
theorem dX7_numberOf_36 : decode cX7_numberOf 36 = .ok (.iload 5, 2) := by decide +kernel
theorem dX7_numberOf_38 : decode cX7_numberOf 38 = .ok (.invokevirtual 188, 3) := by decide +kernel
theorem dX7_numberOf_41 : decode cX7_numberOf 41 = .ok (.ifCond .eq 22, 3) := by decide +kernel
theorem dX7_numberOf_44 : decode cX7_numberOf 44 = .ok (.goto 15, 3) := by decide +kernel
theorem dX7_numberOf_47 : decode cX7_numberOf 47 = .ok (.aload_n 0, 1) := by decide +kernel
theorem dX7_numberOf_48 : decode cX7_numberOf 48 = .ok (.iload 5, 2) := by decide +kernel
theorem dX7_numberOf_50 : decode cX7_numberOf 50 = .ok (.iconst 3, 1) := by decide +kernel
theorem dX7_numberOf_51 : decode cX7_numberOf 51 = .ok (.invokevirtual 40, 3) := by decide +kernel
theorem dX7_numberOf_54 : decode cX7_numberOf 54 = .ok (.bipush 8, 2) := by decide +kernel
theorem dX7_numberOf_56 : decode cX7_numberOf 56 = .ok (.if_icmp .ne 7, 3) := by decide +kernel
theorem dX7_numberOf_59 : decode cX7_numberOf 59 = .ok (.iconst 1, 1) := by decide +kernel
theorem dX7_numberOf_60 : decode cX7_numberOf 60 = .ok (.goto 4, 3) := by decide +kernel
theorem dX7_numberOf_63 : decode cX7_numberOf 63 = .ok (.iconst 0, 1) := by decide +kernel
theorem dX7_numberOf_64 : decode cX7_numberOf 64 = .ok (.iadd, 1) := by decide +kernel
theorem dX7_numberOf_65 : decode cX7_numberOf 65 = .ok (.istore_n 3, 1) := by decide +kernel
theorem dX7_numberOf_66 : decode cX7_numberOf 66 = .ok (.iinc 4 1, 3) := by decide +kernel
theorem dX7_numberOf_69 : decode cX7_numberOf 69 = .ok (.goto (-64), 3) := by decide +kernel
theorem dX7_numberOf_72 : decode cX7_numberOf 72 = .ok (.iload_n 3, 1) := by decide +kernel
theorem dX7_numberOf_73 : decode cX7_numberOf 73 = .ok (.ireturn, 1) := by decide +kernel
abbrev rmX7_numberOf : Room := { frames := 3, cells := 0, slots := 0, locals := 85 }
noncomputable def fX7_numberOf_64 (n : Nat) (Sh : Sp) (M : Mm) (a0 : Nat) (a1 : Int32) (a2 : Int32) (v4 : Int32) (t0 : Int32) (t1 : Int32) : Option ((Int32 × Int32) ⊕ Int32) :=
  some (Sum.inl ((t0 + t1), (v4 + 1)))
noncomputable def fX7_numberOf_63 (n : Nat) (Sh : Sp) (M : Mm) (a0 : Nat) (a1 : Int32) (a2 : Int32) (v4 : Int32) (t0 : Int32) : Option ((Int32 × Int32) ⊕ Int32) :=
  fX7_numberOf_64 n Sh M a0 a1 a2 v4 t0 0
noncomputable def fX7_numberOf_59 (n : Nat) (Sh : Sp) (M : Mm) (a0 : Nat) (a1 : Int32) (a2 : Int32) (v4 : Int32) (t0 : Int32) : Option ((Int32 × Int32) ⊕ Int32) :=
  fX7_numberOf_64 n Sh M a0 a1 a2 v4 t0 1
noncomputable def fX7_numberOf_5b (n : Nat) (Sh : Sp) (M : Mm) (a0 : Nat) (a1 : Int32) (a2 : Int32) (v3 : Int32) (v4 : Int32) : Option ((Int32 × Int32) ⊕ Int32) :=
  (fX7_of n Sh M a0 a1 2).bind fun r1 =>
  if v4 < r1 then
    (fX7_of n Sh M a0 a1 1).bind fun r2 =>
    (fX7_childAt n Sh M a0 r2 v4).bind fun r3 =>
    if a2 = 0 then
      (fX7_of n Sh M a0 r3 3).bind fun r4 =>
      if r4 = 8 then
        fX7_numberOf_59 n Sh M a0 a1 a2 v4 v3
      else
        fX7_numberOf_63 n Sh M a0 a1 a2 v4 v3
    else
      (fX7_isCellRole n Sh M a0 r3).bind fun r5 =>
      if r5 = 0 then
        fX7_numberOf_63 n Sh M a0 a1 a2 v4 v3
      else
        fX7_numberOf_59 n Sh M a0 a1 a2 v4 v3
  else
    some (Sum.inr v3)
noncomputable def fX7_numberOf_5 (n : Nat) (Sh : Sp) (M : Mm) (a0 : Nat) (a1 : Int32) (a2 : Int32) (v3 : Int32) (v4 : Int32) : Option Int32 :=
  iter n (fun s => fX7_numberOf_5b n Sh M a0 a1 a2 s.1 s.2) (v3, v4)
noncomputable def fX7_numberOf (n : Nat) (Sh : Sp) (M : Mm) (a0 : Nat) (a1 : Int32) (a2 : Int32) : Option Int32 :=
  fX7_numberOf_5 n Sh M a0 a1 a2 0 0
set_option maxRecDepth 100000 in
set_option maxHeartbeats 4000000 in
theorem kX7_numberOf {l : Launch} {G : Gt} {n : Nat} {Sh : Sp} {M : Mm} {a0 : Nat} {a1 : Int32} {a2 : Int32} (hT : Sh a0 = some (.inl 7)) {r : Int32} (h : fX7_numberOf n Sh M a0 a1 a2 = some r) : Ct l yX7_numberOf cX7_numberOf 6 (some .int) rmX7_numberOf G Sh M [.ref a0, .int a1, .int a2] (some (.int r)) M := by
  refine Ct.of (by decide) (Nat.le_of_ble_eq_true rfl) ?_
  intro p e s m args below meth c ls C hK hX hP hS hb hlk hr hl
  replace hl : lv_has ls 6 [(0, .ref a0), (1, .int a1), (2, .int a2)] := hl
  have J5 : ∀ (k : Nat) (v3 : Int32) (v4 : Int32) (H : Heap) (locs : List Loc) (ls : Array Slot), HM G Sh M H → SS G s s.heap.size H locs → lv_has ls 6 [(0, .ref a0), (1, .int a1), (2, .int a2), (3, .int v3), (4, .int v4)] → iter k (fun s => fX7_numberOf_5b n Sh M a0 a1 a2 s.1 s.2) (v3, v4) = some r → W p l e rmX7_numberOf s m args below meth c H locs 0 0 (MQ below (QG G Sh M (some (.int r))) args s rmX7_numberOf.cells rmX7_numberOf.slots (AA G)) (F0 m 5 ls []) := by
    intro k
    induction k with
    | zero => intro v3 v4 H locs ls hP hS hl h; exact (iter_0 h).elim
    | succ k ih1 =>
      intro v3 v4 H locs ls hP hS hl h
      obtain ⟨z1, h, hz1⟩ := iter_some h
      replace h : fX7_numberOf_5b n Sh M a0 a1 a2 v3 v4 = some z1 := h
      have J64 : ∀ (v4 : Int32) (t0 : Int32) (t1 : Int32) (H : Heap) (locs : List Loc) (ls : Array Slot), HM G Sh M H → SS G s s.heap.size H locs → lv_has ls 6 [(0, .ref a0), (1, .int a1), (2, .int a2), (4, .int v4)] → fX7_numberOf_64 n Sh M a0 a1 a2 v4 t0 t1 = some z1 → W p l e rmX7_numberOf s m args below meth c H locs 0 0 (MQ below (QG G Sh M (some (.int r))) args s rmX7_numberOf.cells rmX7_numberOf.slots (AA G)) (F0 m 64 ls [.int t1, .int t0]) := by
        intro v4 t0 t1 H locs ls hP hS hl h
        unfold fX7_numberOf_64 at h
        refine lv_iadd C.1 C.2.1 dX7_numberOf_64 ?_
        refine lv_istore_n (lv' := [(3, .int (t0 + t1)), (0, .ref a0), (1, .int a1), (2, .int a2), (4, .int v4)]) C.1 C.2.1 dX7_numberOf_65 rfl hl (by decide) rfl (fun ls hl => ?_)
        refine lv_iinc (v := (v4 + 1)) (lv' := [(4, .int (v4 + 1)), (3, .int (t0 + t1)), (0, .ref a0), (1, .int a1), (2, .int a2)]) C.1 C.2.1 dX7_numberOf_66 hl (k := 4) rfl rfl (by decide) rfl (fun ls hl => ?_)
        refine lv_goto (tgt := 5) C.1 C.2.1 dX7_numberOf_69 (by decide) ?_
        have e := Option.some.inj h
        rw [← e] at hz1
        exact ih1 ((t0 + t1)) ((v4 + 1)) _ _ _ hP hS (lv_sub hl [2, 3, 4, 1, 0] rfl) (itK_inl hz1)
      have J63 : ∀ (v4 : Int32) (t0 : Int32) (H : Heap) (locs : List Loc) (ls : Array Slot), HM G Sh M H → SS G s s.heap.size H locs → lv_has ls 6 [(0, .ref a0), (1, .int a1), (2, .int a2), (4, .int v4)] → fX7_numberOf_63 n Sh M a0 a1 a2 v4 t0 = some z1 → W p l e rmX7_numberOf s m args below meth c H locs 0 0 (MQ below (QG G Sh M (some (.int r))) args s rmX7_numberOf.cells rmX7_numberOf.slots (AA G)) (F0 m 63 ls [.int t0]) := by
        intro v4 t0 H locs ls hP hS hl h
        unfold fX7_numberOf_63 at h
        refine lv_iconst (v := 0) C.1 C.2.1 dX7_numberOf_63 (by decide) ?_
        exact J64 (v4) (t0) (0) _ _ _ hP hS (lv_sub hl [0, 1, 2, 3] rfl) h
      have J59 : ∀ (v4 : Int32) (t0 : Int32) (H : Heap) (locs : List Loc) (ls : Array Slot), HM G Sh M H → SS G s s.heap.size H locs → lv_has ls 6 [(0, .ref a0), (1, .int a1), (2, .int a2), (4, .int v4)] → fX7_numberOf_59 n Sh M a0 a1 a2 v4 t0 = some z1 → W p l e rmX7_numberOf s m args below meth c H locs 0 0 (MQ below (QG G Sh M (some (.int r))) args s rmX7_numberOf.cells rmX7_numberOf.slots (AA G)) (F0 m 59 ls [.int t0]) := by
        intro v4 t0 H locs ls hP hS hl h
        unfold fX7_numberOf_59 at h
        refine lv_iconst (v := 1) C.1 C.2.1 dX7_numberOf_59 (by decide) ?_
        refine lv_goto (tgt := 64) C.1 C.2.1 dX7_numberOf_60 (by decide) ?_
        exact J64 (v4) (t0) (1) _ _ _ hP hS (lv_sub hl [0, 1, 2, 3] rfl) h
      unfold fX7_numberOf_5b at h
      refine lv_iload C.1 C.2.1 dX7_numberOf_5 (lv_at hl 4 rfl) ?_
      refine lv_aload_n C.1 C.2.1 dX7_numberOf_7 rfl (lv_at hl 0 rfl) ?_
      refine lv_iload_n C.1 C.2.1 dX7_numberOf_8 rfl (lv_at hl 1 rfl) ?_
      refine lv_iconst (v := 2) C.1 C.2.1 dX7_numberOf_9 (by decide) ?_
      obtain ⟨r1, hc, h⟩ := bS h
      refine r_V1 C hK hX hb hP hS hl.1 (kX7_of (hT) hc) hT cl_7 wd_1197 mo_X7_of wd_1199 wd_24 ⟨Nat.le_of_ble_eq_true rfl, Nat.le_of_ble_eq_true rfl⟩ ⟨Nat.le_of_ble_eq_true rfl, Nat.le_of_ble_eq_true rfl⟩ rfl (rest := [.int v4]) rfl (Nat.le_of_ble_eq_true rfl) dX7_numberOf_10 (fun H locs hP hS => ?_)
      refine b_ige (tgt := 72) C dX7_numberOf_13 (by decide) h (fun h => ?_) (fun h => ?_)
      · refine lv_aload_n C.1 C.2.1 dX7_numberOf_16 rfl (lv_at hl 0 rfl) ?_
        refine lv_aload_n C.1 C.2.1 dX7_numberOf_17 rfl (lv_at hl 0 rfl) ?_
        refine lv_iload_n C.1 C.2.1 dX7_numberOf_18 rfl (lv_at hl 1 rfl) ?_
        refine lv_iconst (v := 1) C.1 C.2.1 dX7_numberOf_19 (by decide) ?_
        obtain ⟨r2, hc, h⟩ := bS h
        refine r_V1 C hK hX hb hP hS hl.1 (kX7_of (hT) hc) hT cl_7 wd_1197 mo_X7_of wd_1199 wd_24 ⟨Nat.le_of_ble_eq_true rfl, Nat.le_of_ble_eq_true rfl⟩ ⟨Nat.le_of_ble_eq_true rfl, Nat.le_of_ble_eq_true rfl⟩ rfl (rest := [.ref a0]) rfl (Nat.le_of_ble_eq_true rfl) dX7_numberOf_20 (fun H locs hP hS => ?_)
        refine lv_iload C.1 C.2.1 dX7_numberOf_23 (lv_at hl 4 rfl) ?_
        obtain ⟨r3, hc, h⟩ := bS h
        refine r_V1 C hK hX hb hP hS hl.1 (kX7_childAt (hT) hc) hT cl_7 wd_1272 mo_X7_childAt wd_1274 wd_37 ⟨Nat.le_of_ble_eq_true rfl, Nat.le_of_ble_eq_true rfl⟩ ⟨Nat.le_of_ble_eq_true rfl, Nat.le_of_ble_eq_true rfl⟩ rfl (rest := []) rfl (Nat.le_of_ble_eq_true rfl) dX7_numberOf_25 (fun H locs hP hS => ?_)
        refine lv_istore (lv' := [(5, .int r3), (0, .ref a0), (1, .int a1), (2, .int a2), (3, .int v3), (4, .int v4)]) C.1 C.2.1 dX7_numberOf_28 hl (by decide) rfl (fun ls hl => ?_)
        refine lv_iload_n C.1 C.2.1 dX7_numberOf_30 rfl (lv_at hl 4 rfl) ?_
        refine lv_iload_n C.1 C.2.1 dX7_numberOf_31 rfl (lv_at hl 3 rfl) ?_
        refine b_eq (tgt := 47) C dX7_numberOf_32 (by decide) h (fun h => ?_) (fun h => ?_)
        · refine lv_aload_n C.1 C.2.1 dX7_numberOf_47 rfl (lv_at hl 1 rfl) ?_
          refine lv_iload C.1 C.2.1 dX7_numberOf_48 (lv_at hl 0 rfl) ?_
          refine lv_iconst (v := 3) C.1 C.2.1 dX7_numberOf_50 (by decide) ?_
          obtain ⟨r4, hc, h⟩ := bS h
          refine r_V1 C hK hX hb hP hS hl.1 (kX7_of (hT) hc) hT cl_7 wd_1197 mo_X7_of wd_1199 wd_24 ⟨Nat.le_of_ble_eq_true rfl, Nat.le_of_ble_eq_true rfl⟩ ⟨Nat.le_of_ble_eq_true rfl, Nat.le_of_ble_eq_true rfl⟩ rfl (rest := [.int v3]) rfl (Nat.le_of_ble_eq_true rfl) dX7_numberOf_51 (fun H locs hP hS => ?_)
          refine lv_bipush (v := 8) C.1 C.2.1 dX7_numberOf_54 (by decide) ?_
          refine b_ine (tgt := 63) C dX7_numberOf_56 (by decide) h (fun h => ?_) (fun h => ?_)
          · exact J59 (v4) (v3) _ _ _ hP hS (lv_sub hl [1, 2, 3, 5] rfl) h
          · exact J63 (v4) (v3) _ _ _ hP hS (lv_sub hl [1, 2, 3, 5] rfl) h
        · refine lv_aload_n C.1 C.2.1 dX7_numberOf_35 rfl (lv_at hl 1 rfl) ?_
          refine lv_iload C.1 C.2.1 dX7_numberOf_36 (lv_at hl 0 rfl) ?_
          obtain ⟨r5, hc, h⟩ := bS h
          refine r_V1 C hK hX hb hP hS hl.1 (kX7_isCellRole (hT) hc) hT cl_7 wd_1478 mo_X7_isCellRole wd_1480 wd_64 ⟨Nat.le_of_ble_eq_true rfl, Nat.le_of_ble_eq_true rfl⟩ ⟨Nat.le_of_ble_eq_true rfl, Nat.le_of_ble_eq_true rfl⟩ rfl (rest := [.int v3]) rfl (Nat.le_of_ble_eq_true rfl) dX7_numberOf_38 (fun H locs hP hS => ?_)
          refine b_eq (tgt := 63) C dX7_numberOf_41 (by decide) h (fun h => ?_) (fun h => ?_)
          · exact J63 (v4) (v3) _ _ _ hP hS (lv_sub hl [1, 2, 3, 5] rfl) h
          · refine lv_goto (tgt := 59) C.1 C.2.1 dX7_numberOf_44 (by decide) ?_
            exact J59 (v4) (v3) _ _ _ hP hS (lv_sub hl [1, 2, 3, 5] rfl) h
      · refine lv_iload_n C.1 C.2.1 dX7_numberOf_72 rfl (lv_at hl 3 rfl) ?_
        have e := Option.some.inj h
        rw [← e] at hz1
        replace e := itK_inr hz1
        exact q_i C hlk hP hS hr (by rw [← e]) rfl dX7_numberOf_73
  unfold fX7_numberOf at h
  refine lv_iconst (v := 0) C.1 C.2.1 dX7_numberOf_0 (by decide) ?_
  refine lv_istore_n (lv' := [(3, .int 0), (0, .ref a0), (1, .int a1), (2, .int a2)]) C.1 C.2.1 dX7_numberOf_1 rfl hl (by decide) rfl (fun ls hl => ?_)
  refine lv_iconst (v := 0) C.1 C.2.1 dX7_numberOf_2 (by decide) ?_
  refine lv_istore (lv' := [(4, .int 0), (3, .int 0), (0, .ref a0), (1, .int a1), (2, .int a2)]) C.1 C.2.1 dX7_numberOf_3 hl (by decide) rfl (fun ls hl => ?_)
  exact J5  n (0) (0) _ _ _ hP hS (lv_sub hl [2, 3, 4, 1, 0] rfl) h
theorem dX7_numbered_0 : decode cX7_numbered 0 = .ok (.iload_n 2, 1) := by decide +kernel
theorem dX7_numbered_1 : decode cX7_numbered 1 = .ok (.istore 4, 2) := by decide +kernel
theorem dX7_numbered_3 : decode cX7_numbered 3 = .ok (.iconst 0, 1) := by decide +kernel
theorem dX7_numbered_4 : decode cX7_numbered 4 = .ok (.istore 5, 2) := by decide +kernel
theorem dX7_numbered_6 : decode cX7_numbered 6 = .ok (.iload 5, 2) := by decide +kernel
theorem dX7_numbered_8 : decode cX7_numbered 8 = .ok (.aload_n 0, 1) := by decide +kernel
theorem dX7_numbered_9 : decode cX7_numbered 9 = .ok (.iload_n 1, 1) := by decide +kernel
theorem dX7_numbered_10 : decode cX7_numbered 10 = .ok (.invokevirtual 126, 3) := by decide +kernel
theorem dX7_numbered_13 : decode cX7_numbered 13 = .ok (.if_icmp .ge 61, 3) := by decide +kernel
theorem dX7_numbered_16 : decode cX7_numbered 16 = .ok (.iload_n 2, 1) := by decide +kernel
theorem dX7_numbered_17 : decode cX7_numbered 17 = .ok (.ifCond .lt 57, 3) := by decide +kernel
theorem dX7_numbered_20 : decode cX7_numbered 20 = .ok (.aload_n 0, 1) := by decide +kernel
theorem dX7_numbered_21 : decode cX7_numbered 21 = .ok (.iload_n 1, 1) := by decide +kernel
theorem dX7_numbered_22 : decode cX7_numbered 22 = .ok (.iload 5, 2) := by decide +kernel
theorem dX7_numbered_24 : decode cX7_numbered 24 = .ok (.invokevirtual 44, 3) := by decide +kernel
theorem dX7_numbered_27 : decode cX7_numbered 27 = .ok (.istore 6, 2) := by decide +kernel
theorem dX7_numbered_29 : decode cX7_numbered 29 = .ok (.iload_n 3, 1) := by decide +kernel
theorem dX7_numbered_30 : decode cX7_numbered 30 = .ok (.ifCond .eq 15, 3) := by decide +kernel
theorem dX7_numbered_33 : decode cX7_numbered 33 = .ok (.aload_n 0, 1) := by decide +kernel
theorem dX7_numbered_34 : decode cX7_numbered 34 = .ok (.iload 6, 2) := by decide +kernel
theorem dX7_numbered_36 : decode cX7_numbered 36 = .ok (.invokevirtual 188, 3) := by decide +kernel
theorem dX7_numbered_39 : decode cX7_numbered 39 = .ok (.ifCond .eq 29, 3) := by decide +kernel
theorem dX7_numbered_42 : decode cX7_numbered 42 = .ok (.goto 15, 3) := by decide +kernel
theorem dX7_numbered_45 : decode cX7_numbered 45 = .ok (.aload_n 0, 1) := by decide +kernel
theorem dX7_numbered_46 : decode cX7_numbered 46 = .ok (.iload 6, 2) := by decide +kernel
theorem dX7_numbered_48 : decode cX7_numbered 48 = .ok (.iconst 3, 1) := by decide +kernel
theorem dX7_numbered_49 : decode cX7_numbered 49 = .ok (.invokevirtual 40, 3) := by decide +kernel
theorem dX7_numbered_52 : decode cX7_numbered 52 = .ok (.bipush 8, 2) := by decide +kernel
theorem dX7_numbered_54 : decode cX7_numbered 54 = .ok (.if_icmp .ne 14, 3) := by decide +kernel
theorem dX7_numbered_57 : decode cX7_numbered 57 = .ok (.iload 4, 2) := by decide +kernel
theorem dX7_numbered_59 : decode cX7_numbered 59 = .ok (.ifCond .ne 6, 3) := by decide +kernel
theorem dX7_numbered_62 : decode cX7_numbered 62 = .ok (.iload 6, 2) := by decide +kernel
theorem dX7_numbered_64 : decode cX7_numbered 64 = .ok (.ireturn, 1) := by decide +kernel
theorem dX7_numbered_65 : decode cX7_numbered 65 = .ok (.iinc 4 (-1), 3) := by decide +kernel
theorem dX7_numbered_68 : decode cX7_numbered 68 = .ok (.iinc 5 1, 3) := by decide +kernel
theorem dX7_numbered_71 : decode cX7_numbered 71 = .ok (.goto (-65), 3) := by decide +kernel
theorem dX7_numbered_74 : decode cX7_numbered 74 = .ok (.iconst (-1), 1) := by decide +kernel
theorem dX7_numbered_75 : decode cX7_numbered 75 = .ok (.ireturn, 1) := by decide +kernel
abbrev rmX7_numbered : Room := { frames := 3, cells := 0, slots := 0, locals := 85 }
noncomputable def fX7_numbered_68 (n : Nat) (Sh : Sp) (M : Mm) (a0 : Nat) (a1 : Int32) (a2 : Int32) (a3 : Int32) (v4 : Int32) (v5 : Int32) : Option ((Int32 × Int32) ⊕ Int32) :=
  some (Sum.inl (v4, (v5 + 1)))
noncomputable def fX7_numbered_57 (n : Nat) (Sh : Sp) (M : Mm) (a0 : Nat) (a1 : Int32) (a2 : Int32) (a3 : Int32) (v4 : Int32) (v5 : Int32) (v6 : Int32) : Option ((Int32 × Int32) ⊕ Int32) :=
  if v4 = 0 then
    some (Sum.inr v6)
  else
    fX7_numbered_68 n Sh M a0 a1 a2 a3 (v4 + (-1)) v5
noncomputable def fX7_numbered_6b (n : Nat) (Sh : Sp) (M : Mm) (a0 : Nat) (a1 : Int32) (a2 : Int32) (a3 : Int32) (v4 : Int32) (v5 : Int32) : Option ((Int32 × Int32) ⊕ Int32) :=
  (fX7_childMany n Sh M a0 a1).bind fun r1 =>
  if v5 < r1 then
    if a2 < 0 then
      some (Sum.inr (-1))
    else
      (fX7_childAt n Sh M a0 a1 v5).bind fun r2 =>
      if a3 = 0 then
        (fX7_of n Sh M a0 r2 3).bind fun r3 =>
        if r3 = 8 then
          fX7_numbered_57 n Sh M a0 a1 a2 a3 v4 v5 r2
        else
          fX7_numbered_68 n Sh M a0 a1 a2 a3 v4 v5
      else
        (fX7_isCellRole n Sh M a0 r2).bind fun r4 =>
        if r4 = 0 then
          fX7_numbered_68 n Sh M a0 a1 a2 a3 v4 v5
        else
          fX7_numbered_57 n Sh M a0 a1 a2 a3 v4 v5 r2
  else
    some (Sum.inr (-1))
noncomputable def fX7_numbered_6 (n : Nat) (Sh : Sp) (M : Mm) (a0 : Nat) (a1 : Int32) (a2 : Int32) (a3 : Int32) (v4 : Int32) (v5 : Int32) : Option Int32 :=
  iter n (fun s => fX7_numbered_6b n Sh M a0 a1 a2 a3 s.1 s.2) (v4, v5)
noncomputable def fX7_numbered (n : Nat) (Sh : Sp) (M : Mm) (a0 : Nat) (a1 : Int32) (a2 : Int32) (a3 : Int32) : Option Int32 :=
  fX7_numbered_6 n Sh M a0 a1 a2 a3 a2 0
set_option maxRecDepth 100000 in
set_option maxHeartbeats 4000000 in
theorem kX7_numbered {l : Launch} {G : Gt} {n : Nat} {Sh : Sp} {M : Mm} {a0 : Nat} {a1 : Int32} {a2 : Int32} {a3 : Int32} (hT : Sh a0 = some (.inl 7)) {r : Int32} (h : fX7_numbered n Sh M a0 a1 a2 a3 = some r) : Ct l yX7_numbered cX7_numbered 7 (some .int) rmX7_numbered G Sh M [.ref a0, .int a1, .int a2, .int a3] (some (.int r)) M := by
  refine Ct.of (by decide) (Nat.le_of_ble_eq_true rfl) ?_
  intro p e s m args below meth c ls C hK hX hP hS hb hlk hr hl
  replace hl : lv_has ls 7 [(0, .ref a0), (1, .int a1), (2, .int a2), (3, .int a3)] := hl
  have J6 : ∀ (k : Nat) (v4 : Int32) (v5 : Int32) (H : Heap) (locs : List Loc) (ls : Array Slot), HM G Sh M H → SS G s s.heap.size H locs → lv_has ls 7 [(0, .ref a0), (1, .int a1), (2, .int a2), (3, .int a3), (4, .int v4), (5, .int v5)] → iter k (fun s => fX7_numbered_6b n Sh M a0 a1 a2 a3 s.1 s.2) (v4, v5) = some r → W p l e rmX7_numbered s m args below meth c H locs 0 0 (MQ below (QG G Sh M (some (.int r))) args s rmX7_numbered.cells rmX7_numbered.slots (AA G)) (F0 m 6 ls []) := by
    intro k
    induction k with
    | zero => intro v4 v5 H locs ls hP hS hl h; exact (iter_0 h).elim
    | succ k ih1 =>
      intro v4 v5 H locs ls hP hS hl h
      obtain ⟨z1, h, hz1⟩ := iter_some h
      replace h : fX7_numbered_6b n Sh M a0 a1 a2 a3 v4 v5 = some z1 := h
      have J68 : ∀ (v4 : Int32) (v5 : Int32) (H : Heap) (locs : List Loc) (ls : Array Slot), HM G Sh M H → SS G s s.heap.size H locs → lv_has ls 7 [(0, .ref a0), (1, .int a1), (2, .int a2), (3, .int a3), (4, .int v4), (5, .int v5)] → fX7_numbered_68 n Sh M a0 a1 a2 a3 v4 v5 = some z1 → W p l e rmX7_numbered s m args below meth c H locs 0 0 (MQ below (QG G Sh M (some (.int r))) args s rmX7_numbered.cells rmX7_numbered.slots (AA G)) (F0 m 68 ls []) := by
        intro v4 v5 H locs ls hP hS hl h
        unfold fX7_numbered_68 at h
        refine lv_iinc (v := (v5 + 1)) (lv' := [(5, .int (v5 + 1)), (0, .ref a0), (1, .int a1), (2, .int a2), (3, .int a3), (4, .int v4)]) C.1 C.2.1 dX7_numbered_68 hl (k := 5) rfl rfl (by decide) rfl (fun ls hl => ?_)
        refine lv_goto (tgt := 6) C.1 C.2.1 dX7_numbered_71 (by decide) ?_
        have e := Option.some.inj h
        rw [← e] at hz1
        exact ih1 (v4) ((v5 + 1)) _ _ _ hP hS (lv_sub hl [1, 2, 3, 4, 5, 0] rfl) (itK_inl hz1)
      have J57 : ∀ (v4 : Int32) (v5 : Int32) (v6 : Int32) (H : Heap) (locs : List Loc) (ls : Array Slot), HM G Sh M H → SS G s s.heap.size H locs → lv_has ls 7 [(0, .ref a0), (1, .int a1), (2, .int a2), (3, .int a3), (4, .int v4), (5, .int v5), (6, .int v6)] → fX7_numbered_57 n Sh M a0 a1 a2 a3 v4 v5 v6 = some z1 → W p l e rmX7_numbered s m args below meth c H locs 0 0 (MQ below (QG G Sh M (some (.int r))) args s rmX7_numbered.cells rmX7_numbered.slots (AA G)) (F0 m 57 ls []) := by
        intro v4 v5 v6 H locs ls hP hS hl h
        unfold fX7_numbered_57 at h
        refine lv_iload C.1 C.2.1 dX7_numbered_57 (lv_at hl 4 rfl) ?_
        refine b_ne (tgt := 65) C dX7_numbered_59 (by decide) h (fun h => ?_) (fun h => ?_)
        · refine lv_iload C.1 C.2.1 dX7_numbered_62 (lv_at hl 6 rfl) ?_
          have e := Option.some.inj h
          rw [← e] at hz1
          replace e := itK_inr hz1
          exact q_i C hlk hP hS hr (by rw [← e]) rfl dX7_numbered_64
        · refine lv_iinc (v := (v4 + (-1))) (lv' := [(4, .int (v4 + (-1))), (0, .ref a0), (1, .int a1), (2, .int a2), (3, .int a3), (5, .int v5), (6, .int v6)]) C.1 C.2.1 dX7_numbered_65 hl (k := 4) rfl rfl (by decide) rfl (fun ls hl => ?_)
          exact J68 ((v4 + (-1))) (v5) _ _ _ hP hS (lv_sub hl [1, 2, 3, 4, 0, 5] rfl) h
      unfold fX7_numbered_6b at h
      refine lv_iload C.1 C.2.1 dX7_numbered_6 (lv_at hl 5 rfl) ?_
      refine lv_aload_n C.1 C.2.1 dX7_numbered_8 rfl (lv_at hl 0 rfl) ?_
      refine lv_iload_n C.1 C.2.1 dX7_numbered_9 rfl (lv_at hl 1 rfl) ?_
      obtain ⟨r1, hc, h⟩ := bS h
      refine r_V1 C hK hX hb hP hS hl.1 (kX7_childMany (hT) hc) hT cl_7 wd_1201 mo_X7_childMany wd_1203 wd_25 ⟨Nat.le_of_ble_eq_true rfl, Nat.le_of_ble_eq_true rfl⟩ ⟨Nat.le_of_ble_eq_true rfl, Nat.le_of_ble_eq_true rfl⟩ rfl (rest := [.int v5]) rfl (Nat.le_of_ble_eq_true rfl) dX7_numbered_10 (fun H locs hP hS => ?_)
      refine b_ige (tgt := 74) C dX7_numbered_13 (by decide) h (fun h => ?_) (fun h => ?_)
      · refine lv_iload_n C.1 C.2.1 dX7_numbered_16 rfl (lv_at hl 2 rfl) ?_
        refine b_lt (tgt := 74) C dX7_numbered_17 (by decide) h (fun h => ?_) (fun h => ?_)
        · refine lv_iconst (v := (-1)) C.1 C.2.1 dX7_numbered_74 (by decide) ?_
          have e := Option.some.inj h
          rw [← e] at hz1
          replace e := itK_inr hz1
          exact q_i C hlk hP hS hr (by rw [← e]) rfl dX7_numbered_75
        · refine lv_aload_n C.1 C.2.1 dX7_numbered_20 rfl (lv_at hl 0 rfl) ?_
          refine lv_iload_n C.1 C.2.1 dX7_numbered_21 rfl (lv_at hl 1 rfl) ?_
          refine lv_iload C.1 C.2.1 dX7_numbered_22 (lv_at hl 5 rfl) ?_
          obtain ⟨r2, hc, h⟩ := bS h
          refine r_V1 C hK hX hb hP hS hl.1 (kX7_childAt (hT) hc) hT cl_7 wd_1272 mo_X7_childAt wd_1274 wd_37 ⟨Nat.le_of_ble_eq_true rfl, Nat.le_of_ble_eq_true rfl⟩ ⟨Nat.le_of_ble_eq_true rfl, Nat.le_of_ble_eq_true rfl⟩ rfl (rest := []) rfl (Nat.le_of_ble_eq_true rfl) dX7_numbered_24 (fun H locs hP hS => ?_)
          refine lv_istore (lv' := [(6, .int r2), (0, .ref a0), (1, .int a1), (2, .int a2), (3, .int a3), (4, .int v4), (5, .int v5)]) C.1 C.2.1 dX7_numbered_27 hl (by decide) rfl (fun ls hl => ?_)
          refine lv_iload_n C.1 C.2.1 dX7_numbered_29 rfl (lv_at hl 4 rfl) ?_
          refine b_eq (tgt := 45) C dX7_numbered_30 (by decide) h (fun h => ?_) (fun h => ?_)
          · refine lv_aload_n C.1 C.2.1 dX7_numbered_45 rfl (lv_at hl 1 rfl) ?_
            refine lv_iload C.1 C.2.1 dX7_numbered_46 (lv_at hl 0 rfl) ?_
            refine lv_iconst (v := 3) C.1 C.2.1 dX7_numbered_48 (by decide) ?_
            obtain ⟨r3, hc, h⟩ := bS h
            refine r_V1 C hK hX hb hP hS hl.1 (kX7_of (hT) hc) hT cl_7 wd_1197 mo_X7_of wd_1199 wd_24 ⟨Nat.le_of_ble_eq_true rfl, Nat.le_of_ble_eq_true rfl⟩ ⟨Nat.le_of_ble_eq_true rfl, Nat.le_of_ble_eq_true rfl⟩ rfl (rest := []) rfl (Nat.le_of_ble_eq_true rfl) dX7_numbered_49 (fun H locs hP hS => ?_)
            refine lv_bipush (v := 8) C.1 C.2.1 dX7_numbered_52 (by decide) ?_
            refine b_ine (tgt := 68) C dX7_numbered_54 (by decide) h (fun h => ?_) (fun h => ?_)
            · exact J57 (v4) (v5) (r2) _ _ _ hP hS (lv_sub hl [1, 2, 3, 4, 5, 6, 0] rfl) h
            · exact J68 (v4) (v5) _ _ _ hP hS (lv_sub hl [1, 2, 3, 4, 5, 6] rfl) h
          · refine lv_aload_n C.1 C.2.1 dX7_numbered_33 rfl (lv_at hl 1 rfl) ?_
            refine lv_iload C.1 C.2.1 dX7_numbered_34 (lv_at hl 0 rfl) ?_
            obtain ⟨r4, hc, h⟩ := bS h
            refine r_V1 C hK hX hb hP hS hl.1 (kX7_isCellRole (hT) hc) hT cl_7 wd_1478 mo_X7_isCellRole wd_1480 wd_64 ⟨Nat.le_of_ble_eq_true rfl, Nat.le_of_ble_eq_true rfl⟩ ⟨Nat.le_of_ble_eq_true rfl, Nat.le_of_ble_eq_true rfl⟩ rfl (rest := []) rfl (Nat.le_of_ble_eq_true rfl) dX7_numbered_36 (fun H locs hP hS => ?_)
            refine b_eq (tgt := 68) C dX7_numbered_39 (by decide) h (fun h => ?_) (fun h => ?_)
            · exact J68 (v4) (v5) _ _ _ hP hS (lv_sub hl [1, 2, 3, 4, 5, 6] rfl) h
            · refine lv_goto (tgt := 57) C.1 C.2.1 dX7_numbered_42 (by decide) ?_
              exact J57 (v4) (v5) (r2) _ _ _ hP hS (lv_sub hl [1, 2, 3, 4, 5, 6, 0] rfl) h
      · refine lv_iconst (v := (-1)) C.1 C.2.1 dX7_numbered_74 (by decide) ?_
        have e := Option.some.inj h
        rw [← e] at hz1
        replace e := itK_inr hz1
        exact q_i C hlk hP hS hr (by rw [← e]) rfl dX7_numbered_75
  unfold fX7_numbered at h
  refine lv_iload_n C.1 C.2.1 dX7_numbered_0 rfl (lv_at hl 2 rfl) ?_
  refine lv_istore (lv' := [(4, .int a2), (0, .ref a0), (1, .int a1), (2, .int a2), (3, .int a3)]) C.1 C.2.1 dX7_numbered_1 hl (by decide) rfl (fun ls hl => ?_)
  refine lv_iconst (v := 0) C.1 C.2.1 dX7_numbered_3 (by decide) ?_
  refine lv_istore (lv' := [(5, .int 0), (4, .int a2), (0, .ref a0), (1, .int a1), (2, .int a2), (3, .int a3)]) C.1 C.2.1 dX7_numbered_4 hl (by decide) rfl (fun ls hl => ?_)
  exact J6  n (a2) (0) _ _ _ hP hS (lv_sub hl [2, 3, 4, 5, 1, 0] rfl) h
theorem dX7_cellOf_0 : decode cX7_cellOf 0 = .ok (.aload_n 0, 1) := by decide +kernel
theorem dX7_cellOf_1 : decode cX7_cellOf 1 = .ok (.iload_n 1, 1) := by decide +kernel
theorem dX7_cellOf_2 : decode cX7_cellOf 2 = .ok (.iconst 3, 1) := by decide +kernel
theorem dX7_cellOf_3 : decode cX7_cellOf 3 = .ok (.invokevirtual 40, 3) := by decide +kernel
theorem dX7_cellOf_6 : decode cX7_cellOf 6 = .ok (.bipush 7, 2) := by decide +kernel
theorem dX7_cellOf_8 : decode cX7_cellOf 8 = .ok (.if_icmp .ne 13, 3) := by decide +kernel
theorem dX7_cellOf_11 : decode cX7_cellOf 11 = .ok (.aload_n 0, 1) := by decide +kernel
theorem dX7_cellOf_12 : decode cX7_cellOf 12 = .ok (.iload_n 1, 1) := by decide +kernel
theorem dX7_cellOf_13 : decode cX7_cellOf 13 = .ok (.iload_n 2, 1) := by decide +kernel
theorem dX7_cellOf_14 : decode cX7_cellOf 14 = .ok (.iconst 0, 1) := by decide +kernel
theorem dX7_cellOf_15 : decode cX7_cellOf 15 = .ok (.invokevirtual 191, 3) := by decide +kernel
theorem dX7_cellOf_18 : decode cX7_cellOf 18 = .ok (.goto 4, 3) := by decide +kernel
theorem dX7_cellOf_21 : decode cX7_cellOf 21 = .ok (.iconst (-1), 1) := by decide +kernel
theorem dX7_cellOf_22 : decode cX7_cellOf 22 = .ok (.istore 4, 2) := by decide +kernel
theorem dX7_cellOf_24 : decode cX7_cellOf 24 = .ok (.iload 4, 2) := by decide +kernel
theorem dX7_cellOf_26 : decode cX7_cellOf 26 = .ok (.iconst (-1), 1) := by decide +kernel
theorem dX7_cellOf_27 : decode cX7_cellOf 27 = .ok (.if_icmp .ne 7, 3) := by decide +kernel
theorem dX7_cellOf_30 : decode cX7_cellOf 30 = .ok (.iconst (-1), 1) := by decide +kernel
theorem dX7_cellOf_31 : decode cX7_cellOf 31 = .ok (.goto 11, 3) := by decide +kernel
theorem dX7_cellOf_34 : decode cX7_cellOf 34 = .ok (.aload_n 0, 1) := by decide +kernel
theorem dX7_cellOf_35 : decode cX7_cellOf 35 = .ok (.iload 4, 2) := by decide +kernel
theorem dX7_cellOf_37 : decode cX7_cellOf 37 = .ok (.iload_n 3, 1) := by decide +kernel
theorem dX7_cellOf_38 : decode cX7_cellOf 38 = .ok (.iconst 1, 1) := by decide +kernel
theorem dX7_cellOf_39 : decode cX7_cellOf 39 = .ok (.invokevirtual 191, 3) := by decide +kernel
theorem dX7_cellOf_42 : decode cX7_cellOf 42 = .ok (.ireturn, 1) := by decide +kernel
abbrev rmX7_cellOf : Room := { frames := 4, cells := 0, slots := 0, locals := 111 }
noncomputable def fX7_cellOf_22 (n : Nat) (Sh : Sp) (M : Mm) (a0 : Nat) (a1 : Int32) (a2 : Int32) (a3 : Int32) (t0 : Int32) : Option Int32 :=
  if t0 = (-1) then
    some (-1)
  else
    (fX7_numbered n Sh M a0 t0 a3 1).bind fun r1 =>
    some r1
noncomputable def fX7_cellOf (n : Nat) (Sh : Sp) (M : Mm) (a0 : Nat) (a1 : Int32) (a2 : Int32) (a3 : Int32) : Option Int32 :=
  (fX7_of n Sh M a0 a1 3).bind fun r2 =>
  if r2 = 7 then
    (fX7_numbered n Sh M a0 a1 a2 0).bind fun r3 =>
    fX7_cellOf_22 n Sh M a0 a1 a2 a3 r3
  else
    fX7_cellOf_22 n Sh M a0 a1 a2 a3 (-1)
set_option maxRecDepth 100000 in
set_option maxHeartbeats 4000000 in
theorem kX7_cellOf {l : Launch} {G : Gt} {n : Nat} {Sh : Sp} {M : Mm} {a0 : Nat} {a1 : Int32} {a2 : Int32} {a3 : Int32} (hT : Sh a0 = some (.inl 7)) {r : Int32} (h : fX7_cellOf n Sh M a0 a1 a2 a3 = some r) : Ct l yX7_cellOf cX7_cellOf 5 (some .int) rmX7_cellOf G Sh M [.ref a0, .int a1, .int a2, .int a3] (some (.int r)) M := by
  refine Ct.of (by decide) (Nat.le_of_ble_eq_true rfl) ?_
  intro p e s m args below meth c ls C hK hX hP hS hb hlk hr hl
  replace hl : lv_has ls 5 [(0, .ref a0), (1, .int a1), (2, .int a2), (3, .int a3)] := hl
  have J22 : ∀ (t0 : Int32) (H : Heap) (locs : List Loc) (ls : Array Slot), HM G Sh M H → SS G s s.heap.size H locs → lv_has ls 5 [(0, .ref a0), (1, .int a1), (2, .int a2), (3, .int a3)] → fX7_cellOf_22 n Sh M a0 a1 a2 a3 t0 = some r → W p l e rmX7_cellOf s m args below meth c H locs 0 0 (MQ below (QG G Sh M (some (.int r))) args s rmX7_cellOf.cells rmX7_cellOf.slots (AA G)) (F0 m 22 ls [.int t0]) := by
    intro t0 H locs ls hP hS hl h
    unfold fX7_cellOf_22 at h
    refine lv_istore (lv' := [(4, .int t0), (0, .ref a0), (1, .int a1), (2, .int a2), (3, .int a3)]) C.1 C.2.1 dX7_cellOf_22 hl (by decide) rfl (fun ls hl => ?_)
    refine lv_iload C.1 C.2.1 dX7_cellOf_24 (lv_at hl 0 rfl) ?_
    refine lv_iconst (v := (-1)) C.1 C.2.1 dX7_cellOf_26 (by decide) ?_
    refine b_ine (tgt := 34) C dX7_cellOf_27 (by decide) h (fun h => ?_) (fun h => ?_)
    · refine lv_iconst (v := (-1)) C.1 C.2.1 dX7_cellOf_30 (by decide) ?_
      refine lv_goto (tgt := 42) C.1 C.2.1 dX7_cellOf_31 (by decide) ?_
      have e := Option.some.inj h
      exact q_i C hlk hP hS hr (by rw [← e]) rfl dX7_cellOf_42
    · refine lv_aload_n C.1 C.2.1 dX7_cellOf_34 rfl (lv_at hl 1 rfl) ?_
      refine lv_iload C.1 C.2.1 dX7_cellOf_35 (lv_at hl 0 rfl) ?_
      refine lv_iload_n C.1 C.2.1 dX7_cellOf_37 rfl (lv_at hl 4 rfl) ?_
      refine lv_iconst (v := 1) C.1 C.2.1 dX7_cellOf_38 (by decide) ?_
      obtain ⟨r1, hc, h⟩ := bS h
      refine r_V1 C hK hX hb hP hS hl.1 (kX7_numbered (hT) hc) hT cl_7 wd_1494 mo_X7_numbered wd_1496 wd_67 ⟨Nat.le_of_ble_eq_true rfl, Nat.le_of_ble_eq_true rfl⟩ ⟨Nat.le_of_ble_eq_true rfl, Nat.le_of_ble_eq_true rfl⟩ rfl (rest := []) rfl (Nat.le_of_ble_eq_true rfl) dX7_cellOf_39 (fun H locs hP hS => ?_)
      have e := Option.some.inj h
      exact q_i C hlk hP hS hr (by rw [← e]) rfl dX7_cellOf_42
  unfold fX7_cellOf at h
  refine lv_aload_n C.1 C.2.1 dX7_cellOf_0 rfl (lv_at hl 0 rfl) ?_
  refine lv_iload_n C.1 C.2.1 dX7_cellOf_1 rfl (lv_at hl 1 rfl) ?_
  refine lv_iconst (v := 3) C.1 C.2.1 dX7_cellOf_2 (by decide) ?_
  obtain ⟨r2, hc, h⟩ := bS h
  refine r_V1 C hK hX hb hP hS hl.1 (kX7_of (hT) hc) hT cl_7 wd_1197 mo_X7_of wd_1199 wd_24 ⟨Nat.le_of_ble_eq_true rfl, Nat.le_of_ble_eq_true rfl⟩ ⟨Nat.le_of_ble_eq_true rfl, Nat.le_of_ble_eq_true rfl⟩ rfl (rest := []) rfl (Nat.le_of_ble_eq_true rfl) dX7_cellOf_3 (fun H locs hP hS => ?_)
  refine lv_bipush (v := 7) C.1 C.2.1 dX7_cellOf_6 (by decide) ?_
  refine b_ine (tgt := 21) C dX7_cellOf_8 (by decide) h (fun h => ?_) (fun h => ?_)
  · refine lv_aload_n C.1 C.2.1 dX7_cellOf_11 rfl (lv_at hl 0 rfl) ?_
    refine lv_iload_n C.1 C.2.1 dX7_cellOf_12 rfl (lv_at hl 1 rfl) ?_
    refine lv_iload_n C.1 C.2.1 dX7_cellOf_13 rfl (lv_at hl 2 rfl) ?_
    refine lv_iconst (v := 0) C.1 C.2.1 dX7_cellOf_14 (by decide) ?_
    obtain ⟨r3, hc, h⟩ := bS h
    refine r_V1 C hK hX hb hP hS hl.1 (kX7_numbered (hT) hc) hT cl_7 wd_1494 mo_X7_numbered wd_1496 wd_67 ⟨Nat.le_of_ble_eq_true rfl, Nat.le_of_ble_eq_true rfl⟩ ⟨Nat.le_of_ble_eq_true rfl, Nat.le_of_ble_eq_true rfl⟩ rfl (rest := []) rfl (Nat.le_of_ble_eq_true rfl) dX7_cellOf_15 (fun H locs hP hS => ?_)
    refine lv_goto (tgt := 22) C.1 C.2.1 dX7_cellOf_18 (by decide) ?_
    exact J22 (r3) _ _ _ hP hS (lv_sub hl [0, 1, 2, 3] rfl) h
  · refine lv_iconst (v := (-1)) C.1 C.2.1 dX7_cellOf_21 (by decide) ?_
    exact J22 ((-1)) _ _ _ hP hS (lv_sub hl [0, 1, 2, 3] rfl) h
theorem dX7_cellPlace_0 : decode cX7_cellPlace 0 = .ok (.aload_n 0, 1) := by decide +kernel
theorem dX7_cellPlace_1 : decode cX7_cellPlace 1 = .ok (.aload_n 0, 1) := by decide +kernel
theorem dX7_cellPlace_2 : decode cX7_cellPlace 2 = .ok (.iload_n 1, 1) := by decide +kernel
theorem dX7_cellPlace_3 : decode cX7_cellPlace 3 = .ok (.invokevirtual 123, 3) := by decide +kernel
theorem dX7_cellPlace_6 : decode cX7_cellPlace 6 = .ok (.ifCond .eq 7, 3) := by decide +kernel
theorem dX7_cellPlace_9 : decode cX7_cellPlace 9 = .ok (.iconst 0, 1) := by decide +kernel
theorem dX7_cellPlace_10 : decode cX7_cellPlace 10 = .ok (.goto 4, 3) := by decide +kernel
theorem dX7_cellPlace_13 : decode cX7_cellPlace 13 = .ok (.iconst 1, 1) := by decide +kernel
theorem dX7_cellPlace_14 : decode cX7_cellPlace 14 = .ok (.putfield 29, 3) := by decide +kernel
theorem dX7_cellPlace_17 : decode cX7_cellPlace 17 = .ok (.aload_n 0, 1) := by decide +kernel
theorem dX7_cellPlace_18 : decode cX7_cellPlace 18 = .ok (.getfield 29, 3) := by decide +kernel
theorem dX7_cellPlace_21 : decode cX7_cellPlace 21 = .ok (.ifCond .eq 5, 3) := by decide +kernel
theorem dX7_cellPlace_24 : decode cX7_cellPlace 24 = .ok (.iconst 0, 1) := by decide +kernel
theorem dX7_cellPlace_25 : decode cX7_cellPlace 25 = .ok (.ireturn, 1) := by decide +kernel
theorem dX7_cellPlace_26 : decode cX7_cellPlace 26 = .ok (.aload_n 0, 1) := by decide +kernel
theorem dX7_cellPlace_27 : decode cX7_cellPlace 27 = .ok (.iload_n 1, 1) := by decide +kernel
theorem dX7_cellPlace_28 : decode cX7_cellPlace 28 = .ok (.invokevirtual 195, 3) := by decide +kernel
theorem dX7_cellPlace_31 : decode cX7_cellPlace 31 = .ok (.ifCond .ne 7, 3) := by decide +kernel
theorem dX7_cellPlace_34 : decode cX7_cellPlace 34 = .ok (.iconst (-1), 1) := by decide +kernel
theorem dX7_cellPlace_35 : decode cX7_cellPlace 35 = .ok (.goto 27, 3) := by decide +kernel
theorem dX7_cellPlace_38 : decode cX7_cellPlace 38 = .ok (.iload_n 2, 1) := by decide +kernel
theorem dX7_cellPlace_39 : decode cX7_cellPlace 39 = .ok (.ifCond .eq 12, 3) := by decide +kernel
theorem dX7_cellPlace_42 : decode cX7_cellPlace 42 = .ok (.aload_n 0, 1) := by decide +kernel
theorem dX7_cellPlace_43 : decode cX7_cellPlace 43 = .ok (.iload_n 1, 1) := by decide +kernel
theorem dX7_cellPlace_44 : decode cX7_cellPlace 44 = .ok (.iconst 1, 1) := by decide +kernel
theorem dX7_cellPlace_45 : decode cX7_cellPlace 45 = .ok (.invokevirtual 198, 3) := by decide +kernel
theorem dX7_cellPlace_48 : decode cX7_cellPlace 48 = .ok (.goto 14, 3) := by decide +kernel
theorem dX7_cellPlace_51 : decode cX7_cellPlace 51 = .ok (.aload_n 0, 1) := by decide +kernel
theorem dX7_cellPlace_52 : decode cX7_cellPlace 52 = .ok (.aload_n 0, 1) := by decide +kernel
theorem dX7_cellPlace_53 : decode cX7_cellPlace 53 = .ok (.iload_n 1, 1) := by decide +kernel
theorem dX7_cellPlace_54 : decode cX7_cellPlace 54 = .ok (.iconst 1, 1) := by decide +kernel
theorem dX7_cellPlace_55 : decode cX7_cellPlace 55 = .ok (.invokevirtual 40, 3) := by decide +kernel
theorem dX7_cellPlace_58 : decode cX7_cellPlace 58 = .ok (.iconst 0, 1) := by decide +kernel
theorem dX7_cellPlace_59 : decode cX7_cellPlace 59 = .ok (.invokevirtual 198, 3) := by decide +kernel
theorem dX7_cellPlace_62 : decode cX7_cellPlace 62 = .ok (.ireturn, 1) := by decide +kernel
abbrev rmX7_cellPlace : Room := { frames := 4, cells := 0, slots := 0, locals := 110 }
noncomputable def fX7_cellPlace_14 (n : Nat) (Sh : Sp) (a0 : Nat) (a1 : Int32) (a2 : Int32) (M : Mm) (t0 : Nat) (t1 : Int32) : Option (Int32 × Mm) :=
  pI Sh M t0 7 5 t1 fun M1 =>
  tI M1 a0 5 fun x2 =>
  if x2 = 0 then
    (fX7_isCell n Sh M1 a0 a1).bind fun r3 =>
    if r3 = 0 then
      some ((-1), M1)
    else
      if a2 = 0 then
        (fX7_of n Sh M1 a0 a1 1).bind fun r4 =>
        (fX7_numberOf n Sh M1 a0 r4 0).bind fun r5 =>
        some (r5, M1)
      else
        (fX7_numberOf n Sh M1 a0 a1 1).bind fun r6 =>
        some (r6, M1)
  else
    some (0, M1)
noncomputable def fX7_cellPlace (n : Nat) (Sh : Sp) (M : Mm) (a0 : Nat) (a1 : Int32) (a2 : Int32) : Option (Int32 × Mm) :=
  (fX7_isNode n Sh M a0 a1).bind fun r7 =>
  if r7 = 0 then
    fX7_cellPlace_14 n Sh a0 a1 a2 M a0 1
  else
    fX7_cellPlace_14 n Sh a0 a1 a2 M a0 0
set_option maxRecDepth 100000 in
set_option maxHeartbeats 4000000 in
theorem kX7_cellPlace {l : Launch} {G : Gt} {n : Nat} {Sh : Sp} {M : Mm} {a0 : Nat} {a1 : Int32} {a2 : Int32} (hT : Sh a0 = some (.inl 7)) {r : (Int32 × Mm)} (h : fX7_cellPlace n Sh M a0 a1 a2 = some r) : Ct l yX7_cellPlace cX7_cellPlace 3 (some .int) rmX7_cellPlace G Sh M [.ref a0, .int a1, .int a2] (some (.int r.1)) r.2 := by
  refine Ct.of (by decide) (Nat.le_of_ble_eq_true rfl) ?_
  intro p e s m args below meth c ls C hK hX hP hS hb hlk hr hl
  replace hl : lv_has ls 3 [(0, .ref a0), (1, .int a1), (2, .int a2)] := hl
  have J14 : ∀ (M : Mm) (t0 : Nat) (t1 : Int32) (H : Heap) (locs : List Loc) (ls : Array Slot), HM G Sh M H → SS G s s.heap.size H locs → lv_has ls 3 [(0, .ref a0), (1, .int a1), (2, .int a2)] → fX7_cellPlace_14 n Sh a0 a1 a2 M t0 t1 = some r → W p l e rmX7_cellPlace s m args below meth c H locs 0 0 (MQ below (QG G Sh r.2 (some (.int r.1))) args s rmX7_cellPlace.cells rmX7_cellPlace.slots (AA G)) (F0 m 14 ls [.int t1, .ref t0]) := by
    intro M t0 t1 H locs ls hP hS hl h
    unfold fX7_cellPlace_14 at h
    refine r_pI C hK hP hS cl_7 (k := 5) (by decide) wd_1149 rfl rfl (tyX7_ok 5 (by decide)) dX7_cellPlace_14 h (fun M1 H locs h hP hS => ?_)
    refine lv_aload_n C.1 C.2.1 dX7_cellPlace_17 rfl (lv_at hl 0 rfl) ?_
    refine r_tI C hK hP hT cl_7 (k := 5) (by decide) wd_1149 rfl dX7_cellPlace_18 h (fun x2 h => ?_)
    refine b_eq (tgt := 26) C dX7_cellPlace_21 (by decide) h (fun h => ?_) (fun h => ?_)
    · refine lv_aload_n C.1 C.2.1 dX7_cellPlace_26 rfl (lv_at hl 0 rfl) ?_
      refine lv_iload_n C.1 C.2.1 dX7_cellPlace_27 rfl (lv_at hl 1 rfl) ?_
      obtain ⟨r3, hc, h⟩ := bS h
      refine r_V1 C hK hX hb hP hS hl.1 (kX7_isCell (hT) hc) hT cl_7 wd_1474 mo_X7_isCell wd_1476 wd_63 ⟨Nat.le_of_ble_eq_true rfl, Nat.le_of_ble_eq_true rfl⟩ ⟨Nat.le_of_ble_eq_true rfl, Nat.le_of_ble_eq_true rfl⟩ rfl (rest := []) rfl (Nat.le_of_ble_eq_true rfl) dX7_cellPlace_28 (fun H locs hP hS => ?_)
      refine b_ne (tgt := 38) C dX7_cellPlace_31 (by decide) h (fun h => ?_) (fun h => ?_)
      · refine lv_iconst (v := (-1)) C.1 C.2.1 dX7_cellPlace_34 (by decide) ?_
        refine lv_goto (tgt := 62) C.1 C.2.1 dX7_cellPlace_35 (by decide) ?_
        have e := Option.some.inj h
        exact q_i C hlk hP hS hr (by rw [← e]) (by rw [← e]) dX7_cellPlace_62
      · refine lv_iload_n C.1 C.2.1 dX7_cellPlace_38 rfl (lv_at hl 2 rfl) ?_
        refine b_eq (tgt := 51) C dX7_cellPlace_39 (by decide) h (fun h => ?_) (fun h => ?_)
        · refine lv_aload_n C.1 C.2.1 dX7_cellPlace_51 rfl (lv_at hl 0 rfl) ?_
          refine lv_aload_n C.1 C.2.1 dX7_cellPlace_52 rfl (lv_at hl 0 rfl) ?_
          refine lv_iload_n C.1 C.2.1 dX7_cellPlace_53 rfl (lv_at hl 1 rfl) ?_
          refine lv_iconst (v := 1) C.1 C.2.1 dX7_cellPlace_54 (by decide) ?_
          obtain ⟨r4, hc, h⟩ := bS h
          refine r_V1 C hK hX hb hP hS hl.1 (kX7_of (hT) hc) hT cl_7 wd_1197 mo_X7_of wd_1199 wd_24 ⟨Nat.le_of_ble_eq_true rfl, Nat.le_of_ble_eq_true rfl⟩ ⟨Nat.le_of_ble_eq_true rfl, Nat.le_of_ble_eq_true rfl⟩ rfl (rest := [.ref a0]) rfl (Nat.le_of_ble_eq_true rfl) dX7_cellPlace_55 (fun H locs hP hS => ?_)
          refine lv_iconst (v := 0) C.1 C.2.1 dX7_cellPlace_58 (by decide) ?_
          obtain ⟨r5, hc, h⟩ := bS h
          refine r_V1 C hK hX hb hP hS hl.1 (kX7_numberOf (hT) hc) hT cl_7 wd_1482 mo_X7_numberOf wd_1484 wd_65 ⟨Nat.le_of_ble_eq_true rfl, Nat.le_of_ble_eq_true rfl⟩ ⟨Nat.le_of_ble_eq_true rfl, Nat.le_of_ble_eq_true rfl⟩ rfl (rest := []) rfl (Nat.le_of_ble_eq_true rfl) dX7_cellPlace_59 (fun H locs hP hS => ?_)
          have e := Option.some.inj h
          exact q_i C hlk hP hS hr (by rw [← e]) (by rw [← e]) dX7_cellPlace_62
        · refine lv_aload_n C.1 C.2.1 dX7_cellPlace_42 rfl (lv_at hl 0 rfl) ?_
          refine lv_iload_n C.1 C.2.1 dX7_cellPlace_43 rfl (lv_at hl 1 rfl) ?_
          refine lv_iconst (v := 1) C.1 C.2.1 dX7_cellPlace_44 (by decide) ?_
          obtain ⟨r6, hc, h⟩ := bS h
          refine r_V1 C hK hX hb hP hS hl.1 (kX7_numberOf (hT) hc) hT cl_7 wd_1482 mo_X7_numberOf wd_1484 wd_65 ⟨Nat.le_of_ble_eq_true rfl, Nat.le_of_ble_eq_true rfl⟩ ⟨Nat.le_of_ble_eq_true rfl, Nat.le_of_ble_eq_true rfl⟩ rfl (rest := []) rfl (Nat.le_of_ble_eq_true rfl) dX7_cellPlace_45 (fun H locs hP hS => ?_)
          refine lv_goto (tgt := 62) C.1 C.2.1 dX7_cellPlace_48 (by decide) ?_
          have e := Option.some.inj h
          exact q_i C hlk hP hS hr (by rw [← e]) (by rw [← e]) dX7_cellPlace_62
    · refine lv_iconst (v := 0) C.1 C.2.1 dX7_cellPlace_24 (by decide) ?_
      have e := Option.some.inj h
      exact q_i C hlk hP hS hr (by rw [← e]) (by rw [← e]) dX7_cellPlace_25
  unfold fX7_cellPlace at h
  refine lv_aload_n C.1 C.2.1 dX7_cellPlace_0 rfl (lv_at hl 0 rfl) ?_
  refine lv_aload_n C.1 C.2.1 dX7_cellPlace_1 rfl (lv_at hl 0 rfl) ?_
  refine lv_iload_n C.1 C.2.1 dX7_cellPlace_2 rfl (lv_at hl 1 rfl) ?_
  obtain ⟨r7, hc, h⟩ := bS h
  refine r_V1 C hK hX hb hP hS hl.1 (kX7_isNode (hT) hc) hT cl_7 wd_1190 mo_X7_isNode wd_1192 wd_23 ⟨Nat.le_of_ble_eq_true rfl, Nat.le_of_ble_eq_true rfl⟩ ⟨Nat.le_of_ble_eq_true rfl, Nat.le_of_ble_eq_true rfl⟩ rfl (rest := [.ref a0]) rfl (Nat.le_of_ble_eq_true rfl) dX7_cellPlace_3 (fun H locs hP hS => ?_)
  refine b_eq (tgt := 13) C dX7_cellPlace_6 (by decide) h (fun h => ?_) (fun h => ?_)
  · refine lv_iconst (v := 1) C.1 C.2.1 dX7_cellPlace_13 (by decide) ?_
    exact J14 (M) (a0) (1) _ _ _ hP hS (lv_sub hl [0, 1, 2] rfl) h
  · refine lv_iconst (v := 0) C.1 C.2.1 dX7_cellPlace_9 (by decide) ?_
    refine lv_goto (tgt := 14) C.1 C.2.1 dX7_cellPlace_10 (by decide) ?_
    exact J14 (M) (a0) (0) _ _ _ hP hS (lv_sub hl [0, 1, 2] rfl) h
theorem dX7_cellAt_0 : decode cX7_cellAt 0 = .ok (.aload_n 0, 1) := by decide +kernel
theorem dX7_cellAt_1 : decode cX7_cellAt 1 = .ok (.aload_n 0, 1) := by decide +kernel
theorem dX7_cellAt_2 : decode cX7_cellAt 2 = .ok (.iload_n 1, 1) := by decide +kernel
theorem dX7_cellAt_3 : decode cX7_cellAt 3 = .ok (.invokevirtual 123, 3) := by decide +kernel
theorem dX7_cellAt_6 : decode cX7_cellAt 6 = .ok (.ifCond .eq 7, 3) := by decide +kernel
theorem dX7_cellAt_9 : decode cX7_cellAt 9 = .ok (.iconst 0, 1) := by decide +kernel
theorem dX7_cellAt_10 : decode cX7_cellAt 10 = .ok (.goto 4, 3) := by decide +kernel
theorem dX7_cellAt_13 : decode cX7_cellAt 13 = .ok (.iconst 1, 1) := by decide +kernel
theorem dX7_cellAt_14 : decode cX7_cellAt 14 = .ok (.putfield 29, 3) := by decide +kernel
theorem dX7_cellAt_17 : decode cX7_cellAt 17 = .ok (.aload_n 0, 1) := by decide +kernel
theorem dX7_cellAt_18 : decode cX7_cellAt 18 = .ok (.getfield 29, 3) := by decide +kernel
theorem dX7_cellAt_21 : decode cX7_cellAt 21 = .ok (.ifCond .eq 7, 3) := by decide +kernel
theorem dX7_cellAt_24 : decode cX7_cellAt 24 = .ok (.iconst 0, 1) := by decide +kernel
theorem dX7_cellAt_25 : decode cX7_cellAt 25 = .ok (.goto 10, 3) := by decide +kernel
theorem dX7_cellAt_28 : decode cX7_cellAt 28 = .ok (.aload_n 0, 1) := by decide +kernel
theorem dX7_cellAt_29 : decode cX7_cellAt 29 = .ok (.iload_n 1, 1) := by decide +kernel
theorem dX7_cellAt_30 : decode cX7_cellAt 30 = .ok (.iload_n 2, 1) := by decide +kernel
theorem dX7_cellAt_31 : decode cX7_cellAt 31 = .ok (.iload_n 3, 1) := by decide +kernel
theorem dX7_cellAt_32 : decode cX7_cellAt 32 = .ok (.invokevirtual 202, 3) := by decide +kernel
theorem dX7_cellAt_35 : decode cX7_cellAt 35 = .ok (.ireturn, 1) := by decide +kernel
abbrev rmX7_cellAt : Room := { frames := 5, cells := 0, slots := 0, locals := 135 }
noncomputable def fX7_cellAt_14 (n : Nat) (Sh : Sp) (a0 : Nat) (a1 : Int32) (a2 : Int32) (a3 : Int32) (M : Mm) (t0 : Nat) (t1 : Int32) : Option (Int32 × Mm) :=
  pI Sh M t0 7 5 t1 fun M1 =>
  tI M1 a0 5 fun x2 =>
  if x2 = 0 then
    (fX7_cellOf n Sh M1 a0 a1 a2 a3).bind fun r3 =>
    some (r3, M1)
  else
    some (0, M1)
noncomputable def fX7_cellAt (n : Nat) (Sh : Sp) (M : Mm) (a0 : Nat) (a1 : Int32) (a2 : Int32) (a3 : Int32) : Option (Int32 × Mm) :=
  (fX7_isNode n Sh M a0 a1).bind fun r4 =>
  if r4 = 0 then
    fX7_cellAt_14 n Sh a0 a1 a2 a3 M a0 1
  else
    fX7_cellAt_14 n Sh a0 a1 a2 a3 M a0 0
set_option maxRecDepth 100000 in
set_option maxHeartbeats 4000000 in
theorem kX7_cellAt {l : Launch} {G : Gt} {n : Nat} {Sh : Sp} {M : Mm} {a0 : Nat} {a1 : Int32} {a2 : Int32} {a3 : Int32} (hT : Sh a0 = some (.inl 7)) {r : (Int32 × Mm)} (h : fX7_cellAt n Sh M a0 a1 a2 a3 = some r) : Ct l yX7_cellAt cX7_cellAt 4 (some .int) rmX7_cellAt G Sh M [.ref a0, .int a1, .int a2, .int a3] (some (.int r.1)) r.2 := by
  refine Ct.of (by decide) (Nat.le_of_ble_eq_true rfl) ?_
  intro p e s m args below meth c ls C hK hX hP hS hb hlk hr hl
  replace hl : lv_has ls 4 [(0, .ref a0), (1, .int a1), (2, .int a2), (3, .int a3)] := hl
  have J14 : ∀ (M : Mm) (t0 : Nat) (t1 : Int32) (H : Heap) (locs : List Loc) (ls : Array Slot), HM G Sh M H → SS G s s.heap.size H locs → lv_has ls 4 [(0, .ref a0), (1, .int a1), (2, .int a2), (3, .int a3)] → fX7_cellAt_14 n Sh a0 a1 a2 a3 M t0 t1 = some r → W p l e rmX7_cellAt s m args below meth c H locs 0 0 (MQ below (QG G Sh r.2 (some (.int r.1))) args s rmX7_cellAt.cells rmX7_cellAt.slots (AA G)) (F0 m 14 ls [.int t1, .ref t0]) := by
    intro M t0 t1 H locs ls hP hS hl h
    unfold fX7_cellAt_14 at h
    refine r_pI C hK hP hS cl_7 (k := 5) (by decide) wd_1149 rfl rfl (tyX7_ok 5 (by decide)) dX7_cellAt_14 h (fun M1 H locs h hP hS => ?_)
    refine lv_aload_n C.1 C.2.1 dX7_cellAt_17 rfl (lv_at hl 0 rfl) ?_
    refine r_tI C hK hP hT cl_7 (k := 5) (by decide) wd_1149 rfl dX7_cellAt_18 h (fun x2 h => ?_)
    refine b_eq (tgt := 28) C dX7_cellAt_21 (by decide) h (fun h => ?_) (fun h => ?_)
    · refine lv_aload_n C.1 C.2.1 dX7_cellAt_28 rfl (lv_at hl 0 rfl) ?_
      refine lv_iload_n C.1 C.2.1 dX7_cellAt_29 rfl (lv_at hl 1 rfl) ?_
      refine lv_iload_n C.1 C.2.1 dX7_cellAt_30 rfl (lv_at hl 2 rfl) ?_
      refine lv_iload_n C.1 C.2.1 dX7_cellAt_31 rfl (lv_at hl 3 rfl) ?_
      obtain ⟨r3, hc, h⟩ := bS h
      refine r_V1 C hK hX hb hP hS hl.1 (kX7_cellOf (hT) hc) hT cl_7 wd_1490 mo_X7_cellOf wd_1492 wd_66 ⟨Nat.le_of_ble_eq_true rfl, Nat.le_of_ble_eq_true rfl⟩ ⟨Nat.le_of_ble_eq_true rfl, Nat.le_of_ble_eq_true rfl⟩ rfl (rest := []) rfl (Nat.le_of_ble_eq_true rfl) dX7_cellAt_32 (fun H locs hP hS => ?_)
      have e := Option.some.inj h
      exact q_i C hlk hP hS hr (by rw [← e]) (by rw [← e]) dX7_cellAt_35
    · refine lv_iconst (v := 0) C.1 C.2.1 dX7_cellAt_24 (by decide) ?_
      refine lv_goto (tgt := 35) C.1 C.2.1 dX7_cellAt_25 (by decide) ?_
      have e := Option.some.inj h
      exact q_i C hlk hP hS hr (by rw [← e]) (by rw [← e]) dX7_cellAt_35
  unfold fX7_cellAt at h
  refine lv_aload_n C.1 C.2.1 dX7_cellAt_0 rfl (lv_at hl 0 rfl) ?_
  refine lv_aload_n C.1 C.2.1 dX7_cellAt_1 rfl (lv_at hl 0 rfl) ?_
  refine lv_iload_n C.1 C.2.1 dX7_cellAt_2 rfl (lv_at hl 1 rfl) ?_
  obtain ⟨r4, hc, h⟩ := bS h
  refine r_V1 C hK hX hb hP hS hl.1 (kX7_isNode (hT) hc) hT cl_7 wd_1190 mo_X7_isNode wd_1192 wd_23 ⟨Nat.le_of_ble_eq_true rfl, Nat.le_of_ble_eq_true rfl⟩ ⟨Nat.le_of_ble_eq_true rfl, Nat.le_of_ble_eq_true rfl⟩ rfl (rest := [.ref a0]) rfl (Nat.le_of_ble_eq_true rfl) dX7_cellAt_3 (fun H locs hP hS => ?_)
  refine b_eq (tgt := 13) C dX7_cellAt_6 (by decide) h (fun h => ?_) (fun h => ?_)
  · refine lv_iconst (v := 1) C.1 C.2.1 dX7_cellAt_13 (by decide) ?_
    exact J14 (M) (a0) (1) _ _ _ hP hS (lv_sub hl [0, 1, 2, 3] rfl) h
  · refine lv_iconst (v := 0) C.1 C.2.1 dX7_cellAt_9 (by decide) ?_
    refine lv_goto (tgt := 14) C.1 C.2.1 dX7_cellAt_10 (by decide) ?_
    exact J14 (M) (a0) (0) _ _ _ hP hS (lv_sub hl [0, 1, 2, 3] rfl) h
theorem dX7_headerOf_0 : decode cX7_headerOf 0 = .ok (.aload_n 0, 1) := by decide +kernel
theorem dX7_headerOf_1 : decode cX7_headerOf 1 = .ok (.iload_n 1, 1) := by decide +kernel
theorem dX7_headerOf_2 : decode cX7_headerOf 2 = .ok (.invokevirtual 195, 3) := by decide +kernel
theorem dX7_headerOf_5 : decode cX7_headerOf 5 = .ok (.ifCond .ne 5, 3) := by decide +kernel
theorem dX7_headerOf_8 : decode cX7_headerOf 8 = .ok (.iconst (-1), 1) := by decide +kernel
theorem dX7_headerOf_9 : decode cX7_headerOf 9 = .ok (.ireturn, 1) := by decide +kernel
theorem dX7_headerOf_10 : decode cX7_headerOf 10 = .ok (.aload_n 0, 1) := by decide +kernel
theorem dX7_headerOf_11 : decode cX7_headerOf 11 = .ok (.iload_n 1, 1) := by decide +kernel
theorem dX7_headerOf_12 : decode cX7_headerOf 12 = .ok (.iconst 1, 1) := by decide +kernel
theorem dX7_headerOf_13 : decode cX7_headerOf 13 = .ok (.invokevirtual 40, 3) := by decide +kernel
theorem dX7_headerOf_16 : decode cX7_headerOf 16 = .ok (.istore_n 3, 1) := by decide +kernel
theorem dX7_headerOf_17 : decode cX7_headerOf 17 = .ok (.aload_n 0, 1) := by decide +kernel
theorem dX7_headerOf_18 : decode cX7_headerOf 18 = .ok (.iload_n 3, 1) := by decide +kernel
theorem dX7_headerOf_19 : decode cX7_headerOf 19 = .ok (.iconst 1, 1) := by decide +kernel
theorem dX7_headerOf_20 : decode cX7_headerOf 20 = .ok (.invokevirtual 40, 3) := by decide +kernel
theorem dX7_headerOf_23 : decode cX7_headerOf 23 = .ok (.istore 4, 2) := by decide +kernel
theorem dX7_headerOf_25 : decode cX7_headerOf 25 = .ok (.iconst (-1), 1) := by decide +kernel
theorem dX7_headerOf_26 : decode cX7_headerOf 26 = .ok (.istore 5, 2) := by decide +kernel
theorem dX7_headerOf_28 : decode cX7_headerOf 28 = .ok (.iload_n 2, 1) := by decide +kernel
theorem dX7_headerOf_29 : decode cX7_headerOf 29 = .ok (.ifCond .eq 12, 3) := by decide +kernel
theorem dX7_headerOf_32 : decode cX7_headerOf 32 = .ok (.aload_n 0, 1) := by decide +kernel
theorem dX7_headerOf_33 : decode cX7_headerOf 33 = .ok (.iload_n 3, 1) := by decide +kernel
theorem dX7_headerOf_34 : decode cX7_headerOf 34 = .ok (.iconst 0, 1) := by decide +kernel
theorem dX7_headerOf_35 : decode cX7_headerOf 35 = .ok (.invokevirtual 198, 3) := by decide +kernel
theorem dX7_headerOf_38 : decode cX7_headerOf 38 = .ok (.goto 9, 3) := by decide +kernel
theorem dX7_headerOf_41 : decode cX7_headerOf 41 = .ok (.aload_n 0, 1) := by decide +kernel
theorem dX7_headerOf_42 : decode cX7_headerOf 42 = .ok (.iload_n 1, 1) := by decide +kernel
theorem dX7_headerOf_43 : decode cX7_headerOf 43 = .ok (.iconst 1, 1) := by decide +kernel
theorem dX7_headerOf_44 : decode cX7_headerOf 44 = .ok (.invokevirtual 198, 3) := by decide +kernel
theorem dX7_headerOf_47 : decode cX7_headerOf 47 = .ok (.istore 6, 2) := by decide +kernel
theorem dX7_headerOf_49 : decode cX7_headerOf 49 = .ok (.iconst 0, 1) := by decide +kernel
theorem dX7_headerOf_50 : decode cX7_headerOf 50 = .ok (.istore 7, 2) := by decide +kernel
theorem dX7_headerOf_52 : decode cX7_headerOf 52 = .ok (.iload 7, 2) := by decide +kernel
theorem dX7_headerOf_54 : decode cX7_headerOf 54 = .ok (.iload 6, 2) := by decide +kernel
theorem dX7_headerOf_56 : decode cX7_headerOf 56 = .ok (.if_icmp .ge 67, 3) := by decide +kernel
theorem dX7_headerOf_59 : decode cX7_headerOf 59 = .ok (.iload_n 2, 1) := by decide +kernel
theorem dX7_headerOf_60 : decode cX7_headerOf 60 = .ok (.ifCond .eq 20, 3) := by decide +kernel
theorem dX7_headerOf_63 : decode cX7_headerOf 63 = .ok (.aload_n 0, 1) := by decide +kernel
theorem dX7_headerOf_64 : decode cX7_headerOf 64 = .ok (.iload 4, 2) := by decide +kernel
theorem dX7_headerOf_66 : decode cX7_headerOf 66 = .ok (.iload 7, 2) := by decide +kernel
theorem dX7_headerOf_68 : decode cX7_headerOf 68 = .ok (.aload_n 0, 1) := by decide +kernel
theorem dX7_headerOf_69 : decode cX7_headerOf 69 = .ok (.iload_n 1, 1) := by decide +kernel
theorem dX7_headerOf_70 : decode cX7_headerOf 70 = .ok (.iconst 1, 1) := by decide +kernel
theorem dX7_headerOf_71 : decode cX7_headerOf 71 = .ok (.invokevirtual 198, 3) := by decide +kernel
theorem dX7_headerOf_74 : decode cX7_headerOf 74 = .ok (.invokevirtual 202, 3) := by decide +kernel
theorem dX7_headerOf_77 : decode cX7_headerOf 77 = .ok (.goto 11, 3) := by decide +kernel
theorem dX7_headerOf_80 : decode cX7_headerOf 80 = .ok (.aload_n 0, 1) := by decide +kernel
theorem dX7_headerOf_81 : decode cX7_headerOf 81 = .ok (.iload_n 3, 1) := by decide +kernel
theorem dX7_headerOf_82 : decode cX7_headerOf 82 = .ok (.iload 7, 2) := by decide +kernel
theorem dX7_headerOf_84 : decode cX7_headerOf 84 = .ok (.iconst 1, 1) := by decide +kernel
theorem dX7_headerOf_85 : decode cX7_headerOf 85 = .ok (.invokevirtual 191, 3) := by decide +kernel
theorem dX7_headerOf_88 : decode cX7_headerOf 88 = .ok (.istore 8, 2) := by decide +kernel
theorem dX7_headerOf_90 : decode cX7_headerOf 90 = .ok (.iload 8, 2) := by decide +kernel
theorem dX7_headerOf_92 : decode cX7_headerOf 92 = .ok (.iconst (-1), 1) := by decide +kernel
theorem dX7_headerOf_93 : decode cX7_headerOf 93 = .ok (.if_icmp .eq 20, 3) := by decide +kernel
theorem dX7_headerOf_96 : decode cX7_headerOf 96 = .ok (.aload_n 0, 1) := by decide +kernel
theorem dX7_headerOf_97 : decode cX7_headerOf 97 = .ok (.iload 8, 2) := by decide +kernel
theorem dX7_headerOf_99 : decode cX7_headerOf 99 = .ok (.iconst 3, 1) := by decide +kernel
theorem dX7_headerOf_100 : decode cX7_headerOf 100 = .ok (.invokevirtual 40, 3) := by decide +kernel
theorem dX7_headerOf_103 : decode cX7_headerOf 103 = .ok (.bipush 10, 2) := by decide +kernel
theorem dX7_headerOf_105 : decode cX7_headerOf 105 = .ok (.if_icmp .ne 8, 3) := by decide +kernel
theorem dX7_headerOf_108 : decode cX7_headerOf 108 = .ok (.iload 8, 2) := by decide +kernel
theorem dX7_headerOf_110 : decode cX7_headerOf 110 = .ok (.goto 5, 3) := by decide +kernel
theorem dX7_headerOf_113 : decode cX7_headerOf 113 = .ok (.iload 5, 2) := by decide +kernel
theorem dX7_headerOf_115 : decode cX7_headerOf 115 = .ok (.istore 5, 2) := by decide +kernel
theorem dX7_headerOf_117 : decode cX7_headerOf 117 = .ok (.iinc 7 1, 3) := by decide +kernel
theorem dX7_headerOf_120 : decode cX7_headerOf 120 = .ok (.goto (-68), 3) := by decide +kernel
theorem dX7_headerOf_123 : decode cX7_headerOf 123 = .ok (.iload 5, 2) := by decide +kernel
theorem dX7_headerOf_125 : decode cX7_headerOf 125 = .ok (.ireturn, 1) := by decide +kernel
abbrev rmX7_headerOf : Room := { frames := 5, cells := 0, slots := 0, locals := 135 }
noncomputable def fX7_headerOf_115 (n : Nat) (Sh : Sp) (M : Mm) (a0 : Nat) (a1 : Int32) (a2 : Int32) (v3 : Int32) (v4 : Int32) (v6 : Int32) (v7 : Int32) (t0 : Int32) : Option ((Int32 × Int32) ⊕ Int32) :=
  some (Sum.inl (t0, (v7 + 1)))
noncomputable def fX7_headerOf_113 (n : Nat) (Sh : Sp) (M : Mm) (a0 : Nat) (a1 : Int32) (a2 : Int32) (v3 : Int32) (v4 : Int32) (v5 : Int32) (v6 : Int32) (v7 : Int32) : Option ((Int32 × Int32) ⊕ Int32) :=
  fX7_headerOf_115 n Sh M a0 a1 a2 v3 v4 v6 v7 v5
noncomputable def fX7_headerOf_88 (n : Nat) (Sh : Sp) (M : Mm) (a0 : Nat) (a1 : Int32) (a2 : Int32) (v3 : Int32) (v4 : Int32) (v5 : Int32) (v6 : Int32) (v7 : Int32) (t0 : Int32) : Option ((Int32 × Int32) ⊕ Int32) :=
  if t0 = (-1) then
    fX7_headerOf_113 n Sh M a0 a1 a2 v3 v4 v5 v6 v7
  else
    (fX7_of n Sh M a0 t0 3).bind fun r1 =>
    if r1 = 10 then
      fX7_headerOf_115 n Sh M a0 a1 a2 v3 v4 v6 v7 t0
    else
      fX7_headerOf_113 n Sh M a0 a1 a2 v3 v4 v5 v6 v7
noncomputable def fX7_headerOf_52b (n : Nat) (Sh : Sp) (M : Mm) (a0 : Nat) (a1 : Int32) (a2 : Int32) (v3 : Int32) (v4 : Int32) (v6 : Int32) (v5 : Int32) (v7 : Int32) : Option ((Int32 × Int32) ⊕ Int32) :=
  if v7 < v6 then
    if a2 = 0 then
      (fX7_numbered n Sh M a0 v3 v7 1).bind fun r2 =>
      fX7_headerOf_88 n Sh M a0 a1 a2 v3 v4 v5 v6 v7 r2
    else
      (fX7_numberOf n Sh M a0 a1 1).bind fun r3 =>
      (fX7_cellOf n Sh M a0 v4 v7 r3).bind fun r4 =>
      fX7_headerOf_88 n Sh M a0 a1 a2 v3 v4 v5 v6 v7 r4
  else
    some (Sum.inr v5)
noncomputable def fX7_headerOf_52 (n : Nat) (Sh : Sp) (M : Mm) (a0 : Nat) (a1 : Int32) (a2 : Int32) (v3 : Int32) (v4 : Int32) (v6 : Int32) (v5 : Int32) (v7 : Int32) : Option Int32 :=
  iter n (fun s => fX7_headerOf_52b n Sh M a0 a1 a2 v3 v4 v6 s.1 s.2) (v5, v7)
noncomputable def fX7_headerOf_47 (n : Nat) (Sh : Sp) (M : Mm) (a0 : Nat) (a1 : Int32) (a2 : Int32) (v3 : Int32) (v4 : Int32) (v5 : Int32) (t0 : Int32) : Option Int32 :=
  fX7_headerOf_52 n Sh M a0 a1 a2 v3 v4 t0 v5 0
noncomputable def fX7_headerOf (n : Nat) (Sh : Sp) (M : Mm) (a0 : Nat) (a1 : Int32) (a2 : Int32) : Option Int32 :=
  (fX7_isCell n Sh M a0 a1).bind fun r5 =>
  if r5 = 0 then
    some (-1)
  else
    (fX7_of n Sh M a0 a1 1).bind fun r6 =>
    (fX7_of n Sh M a0 r6 1).bind fun r7 =>
    if a2 = 0 then
      (fX7_numberOf n Sh M a0 a1 1).bind fun r8 =>
      fX7_headerOf_47 n Sh M a0 a1 a2 r6 r7 (-1) r8
    else
      (fX7_numberOf n Sh M a0 r6 0).bind fun r9 =>
      fX7_headerOf_47 n Sh M a0 a1 a2 r6 r7 (-1) r9
set_option maxRecDepth 100000 in
set_option maxHeartbeats 4000000 in
theorem kX7_headerOf {l : Launch} {G : Gt} {n : Nat} {Sh : Sp} {M : Mm} {a0 : Nat} {a1 : Int32} {a2 : Int32} (hT : Sh a0 = some (.inl 7)) {r : Int32} (h : fX7_headerOf n Sh M a0 a1 a2 = some r) : Ct l yX7_headerOf cX7_headerOf 9 (some .int) rmX7_headerOf G Sh M [.ref a0, .int a1, .int a2] (some (.int r)) M := by
  refine Ct.of (by decide) (Nat.le_of_ble_eq_true rfl) ?_
  intro p e s m args below meth c ls C hK hX hP hS hb hlk hr hl
  replace hl : lv_has ls 9 [(0, .ref a0), (1, .int a1), (2, .int a2)] := hl
  have J52 : ∀ (v3 : Int32) (v4 : Int32) (v6 : Int32), ∀ (k : Nat) (v5 : Int32) (v7 : Int32) (H : Heap) (locs : List Loc) (ls : Array Slot), HM G Sh M H → SS G s s.heap.size H locs → lv_has ls 9 [(0, .ref a0), (1, .int a1), (2, .int a2), (3, .int v3), (4, .int v4), (5, .int v5), (6, .int v6), (7, .int v7)] → iter k (fun s => fX7_headerOf_52b n Sh M a0 a1 a2 v3 v4 v6 s.1 s.2) (v5, v7) = some r → W p l e rmX7_headerOf s m args below meth c H locs 0 0 (MQ below (QG G Sh M (some (.int r))) args s rmX7_headerOf.cells rmX7_headerOf.slots (AA G)) (F0 m 52 ls []) := by
    intro v3 v4 v6 k
    induction k with
    | zero => intro v5 v7 H locs ls hP hS hl h; exact (iter_0 h).elim
    | succ k ih1 =>
      intro v5 v7 H locs ls hP hS hl h
      obtain ⟨z1, h, hz1⟩ := iter_some h
      replace h : fX7_headerOf_52b n Sh M a0 a1 a2 v3 v4 v6 v5 v7 = some z1 := h
      have J115 : ∀ (v7 : Int32) (t0 : Int32) (H : Heap) (locs : List Loc) (ls : Array Slot), HM G Sh M H → SS G s s.heap.size H locs → lv_has ls 9 [(0, .ref a0), (1, .int a1), (2, .int a2), (3, .int v3), (4, .int v4), (6, .int v6), (7, .int v7)] → fX7_headerOf_115 n Sh M a0 a1 a2 v3 v4 v6 v7 t0 = some z1 → W p l e rmX7_headerOf s m args below meth c H locs 0 0 (MQ below (QG G Sh M (some (.int r))) args s rmX7_headerOf.cells rmX7_headerOf.slots (AA G)) (F0 m 115 ls [.int t0]) := by
        intro v7 t0 H locs ls hP hS hl h
        unfold fX7_headerOf_115 at h
        refine lv_istore (lv' := [(5, .int t0), (0, .ref a0), (1, .int a1), (2, .int a2), (3, .int v3), (4, .int v4), (6, .int v6), (7, .int v7)]) C.1 C.2.1 dX7_headerOf_115 hl (by decide) rfl (fun ls hl => ?_)
        refine lv_iinc (v := (v7 + 1)) (lv' := [(7, .int (v7 + 1)), (5, .int t0), (0, .ref a0), (1, .int a1), (2, .int a2), (3, .int v3), (4, .int v4), (6, .int v6)]) C.1 C.2.1 dX7_headerOf_117 hl (k := 7) rfl rfl (by decide) rfl (fun ls hl => ?_)
        refine lv_goto (tgt := 52) C.1 C.2.1 dX7_headerOf_120 (by decide) ?_
        have e := Option.some.inj h
        rw [← e] at hz1
        exact ih1 (t0) ((v7 + 1)) _ _ _ hP hS (lv_sub hl [2, 3, 4, 5, 6, 1, 7, 0] rfl) (itK_inl hz1)
      have J113 : ∀ (v5 : Int32) (v7 : Int32) (H : Heap) (locs : List Loc) (ls : Array Slot), HM G Sh M H → SS G s s.heap.size H locs → lv_has ls 9 [(0, .ref a0), (1, .int a1), (2, .int a2), (3, .int v3), (4, .int v4), (5, .int v5), (6, .int v6), (7, .int v7)] → fX7_headerOf_113 n Sh M a0 a1 a2 v3 v4 v5 v6 v7 = some z1 → W p l e rmX7_headerOf s m args below meth c H locs 0 0 (MQ below (QG G Sh M (some (.int r))) args s rmX7_headerOf.cells rmX7_headerOf.slots (AA G)) (F0 m 113 ls []) := by
        intro v5 v7 H locs ls hP hS hl h
        unfold fX7_headerOf_113 at h
        refine lv_iload C.1 C.2.1 dX7_headerOf_113 (lv_at hl 5 rfl) ?_
        exact J115 (v7) (v5) _ _ _ hP hS (lv_sub hl [0, 1, 2, 3, 4, 6, 7] rfl) h
      have J88 : ∀ (v5 : Int32) (v7 : Int32) (t0 : Int32) (H : Heap) (locs : List Loc) (ls : Array Slot), HM G Sh M H → SS G s s.heap.size H locs → lv_has ls 9 [(0, .ref a0), (1, .int a1), (2, .int a2), (3, .int v3), (4, .int v4), (5, .int v5), (6, .int v6), (7, .int v7)] → fX7_headerOf_88 n Sh M a0 a1 a2 v3 v4 v5 v6 v7 t0 = some z1 → W p l e rmX7_headerOf s m args below meth c H locs 0 0 (MQ below (QG G Sh M (some (.int r))) args s rmX7_headerOf.cells rmX7_headerOf.slots (AA G)) (F0 m 88 ls [.int t0]) := by
        intro v5 v7 t0 H locs ls hP hS hl h
        unfold fX7_headerOf_88 at h
        refine lv_istore (lv' := [(8, .int t0), (0, .ref a0), (1, .int a1), (2, .int a2), (3, .int v3), (4, .int v4), (5, .int v5), (6, .int v6), (7, .int v7)]) C.1 C.2.1 dX7_headerOf_88 hl (by decide) rfl (fun ls hl => ?_)
        refine lv_iload C.1 C.2.1 dX7_headerOf_90 (lv_at hl 0 rfl) ?_
        refine lv_iconst (v := (-1)) C.1 C.2.1 dX7_headerOf_92 (by decide) ?_
        refine b_ieq (tgt := 113) C dX7_headerOf_93 (by decide) h (fun h => ?_) (fun h => ?_)
        · exact J113 (v5) (v7) _ _ _ hP hS (lv_sub hl [1, 2, 3, 4, 5, 6, 7, 8] rfl) h
        · refine lv_aload_n C.1 C.2.1 dX7_headerOf_96 rfl (lv_at hl 1 rfl) ?_
          refine lv_iload C.1 C.2.1 dX7_headerOf_97 (lv_at hl 0 rfl) ?_
          refine lv_iconst (v := 3) C.1 C.2.1 dX7_headerOf_99 (by decide) ?_
          obtain ⟨r1, hc, h⟩ := bS h
          refine r_V1 C hK hX hb hP hS hl.1 (kX7_of (hT) hc) hT cl_7 wd_1197 mo_X7_of wd_1199 wd_24 ⟨Nat.le_of_ble_eq_true rfl, Nat.le_of_ble_eq_true rfl⟩ ⟨Nat.le_of_ble_eq_true rfl, Nat.le_of_ble_eq_true rfl⟩ rfl (rest := []) rfl (Nat.le_of_ble_eq_true rfl) dX7_headerOf_100 (fun H locs hP hS => ?_)
          refine lv_bipush (v := 10) C.1 C.2.1 dX7_headerOf_103 (by decide) ?_
          refine b_ine (tgt := 113) C dX7_headerOf_105 (by decide) h (fun h => ?_) (fun h => ?_)
          · refine lv_iload C.1 C.2.1 dX7_headerOf_108 (lv_at hl 0 rfl) ?_
            refine lv_goto (tgt := 115) C.1 C.2.1 dX7_headerOf_110 (by decide) ?_
            exact J115 (v7) (t0) _ _ _ hP hS (lv_sub hl [1, 2, 3, 4, 5, 7, 8] rfl) h
          · exact J113 (v5) (v7) _ _ _ hP hS (lv_sub hl [1, 2, 3, 4, 5, 6, 7, 8] rfl) h
      unfold fX7_headerOf_52b at h
      refine lv_iload C.1 C.2.1 dX7_headerOf_52 (lv_at hl 7 rfl) ?_
      refine lv_iload C.1 C.2.1 dX7_headerOf_54 (lv_at hl 6 rfl) ?_
      refine b_ige (tgt := 123) C dX7_headerOf_56 (by decide) h (fun h => ?_) (fun h => ?_)
      · refine lv_iload_n C.1 C.2.1 dX7_headerOf_59 rfl (lv_at hl 2 rfl) ?_
        refine b_eq (tgt := 80) C dX7_headerOf_60 (by decide) h (fun h => ?_) (fun h => ?_)
        · refine lv_aload_n C.1 C.2.1 dX7_headerOf_80 rfl (lv_at hl 0 rfl) ?_
          refine lv_iload_n C.1 C.2.1 dX7_headerOf_81 rfl (lv_at hl 3 rfl) ?_
          refine lv_iload C.1 C.2.1 dX7_headerOf_82 (lv_at hl 7 rfl) ?_
          refine lv_iconst (v := 1) C.1 C.2.1 dX7_headerOf_84 (by decide) ?_
          obtain ⟨r2, hc, h⟩ := bS h
          refine r_V1 C hK hX hb hP hS hl.1 (kX7_numbered (hT) hc) hT cl_7 wd_1494 mo_X7_numbered wd_1496 wd_67 ⟨Nat.le_of_ble_eq_true rfl, Nat.le_of_ble_eq_true rfl⟩ ⟨Nat.le_of_ble_eq_true rfl, Nat.le_of_ble_eq_true rfl⟩ rfl (rest := []) rfl (Nat.le_of_ble_eq_true rfl) dX7_headerOf_85 (fun H locs hP hS => ?_)
          exact J88 (v5) (v7) (r2) _ _ _ hP hS (lv_sub hl [0, 1, 2, 3, 4, 5, 6, 7] rfl) h
        · refine lv_aload_n C.1 C.2.1 dX7_headerOf_63 rfl (lv_at hl 0 rfl) ?_
          refine lv_iload C.1 C.2.1 dX7_headerOf_64 (lv_at hl 4 rfl) ?_
          refine lv_iload C.1 C.2.1 dX7_headerOf_66 (lv_at hl 7 rfl) ?_
          refine lv_aload_n C.1 C.2.1 dX7_headerOf_68 rfl (lv_at hl 0 rfl) ?_
          refine lv_iload_n C.1 C.2.1 dX7_headerOf_69 rfl (lv_at hl 1 rfl) ?_
          refine lv_iconst (v := 1) C.1 C.2.1 dX7_headerOf_70 (by decide) ?_
          obtain ⟨r3, hc, h⟩ := bS h
          refine r_V1 C hK hX hb hP hS hl.1 (kX7_numberOf (hT) hc) hT cl_7 wd_1482 mo_X7_numberOf wd_1484 wd_65 ⟨Nat.le_of_ble_eq_true rfl, Nat.le_of_ble_eq_true rfl⟩ ⟨Nat.le_of_ble_eq_true rfl, Nat.le_of_ble_eq_true rfl⟩ rfl (rest := [.int v7, .int v4, .ref a0]) rfl (Nat.le_of_ble_eq_true rfl) dX7_headerOf_71 (fun H locs hP hS => ?_)
          obtain ⟨r4, hc, h⟩ := bS h
          refine r_V1 C hK hX hb hP hS hl.1 (kX7_cellOf (hT) hc) hT cl_7 wd_1490 mo_X7_cellOf wd_1492 wd_66 ⟨Nat.le_of_ble_eq_true rfl, Nat.le_of_ble_eq_true rfl⟩ ⟨Nat.le_of_ble_eq_true rfl, Nat.le_of_ble_eq_true rfl⟩ rfl (rest := []) rfl (Nat.le_of_ble_eq_true rfl) dX7_headerOf_74 (fun H locs hP hS => ?_)
          refine lv_goto (tgt := 88) C.1 C.2.1 dX7_headerOf_77 (by decide) ?_
          exact J88 (v5) (v7) (r4) _ _ _ hP hS (lv_sub hl [0, 1, 2, 3, 4, 5, 6, 7] rfl) h
      · refine lv_iload C.1 C.2.1 dX7_headerOf_123 (lv_at hl 5 rfl) ?_
        have e := Option.some.inj h
        rw [← e] at hz1
        replace e := itK_inr hz1
        exact q_i C hlk hP hS hr (by rw [← e]) rfl dX7_headerOf_125
  have J47 : ∀ (v3 : Int32) (v4 : Int32) (v5 : Int32) (t0 : Int32) (H : Heap) (locs : List Loc) (ls : Array Slot), HM G Sh M H → SS G s s.heap.size H locs → lv_has ls 9 [(0, .ref a0), (1, .int a1), (2, .int a2), (3, .int v3), (4, .int v4), (5, .int v5)] → fX7_headerOf_47 n Sh M a0 a1 a2 v3 v4 v5 t0 = some r → W p l e rmX7_headerOf s m args below meth c H locs 0 0 (MQ below (QG G Sh M (some (.int r))) args s rmX7_headerOf.cells rmX7_headerOf.slots (AA G)) (F0 m 47 ls [.int t0]) := by
    intro v3 v4 v5 t0 H locs ls hP hS hl h
    unfold fX7_headerOf_47 at h
    refine lv_istore (lv' := [(6, .int t0), (0, .ref a0), (1, .int a1), (2, .int a2), (3, .int v3), (4, .int v4), (5, .int v5)]) C.1 C.2.1 dX7_headerOf_47 hl (by decide) rfl (fun ls hl => ?_)
    refine lv_iconst (v := 0) C.1 C.2.1 dX7_headerOf_49 (by decide) ?_
    refine lv_istore (lv' := [(7, .int 0), (6, .int t0), (0, .ref a0), (1, .int a1), (2, .int a2), (3, .int v3), (4, .int v4), (5, .int v5)]) C.1 C.2.1 dX7_headerOf_50 hl (by decide) rfl (fun ls hl => ?_)
    exact J52 (v3) (v4) (t0) n (v5) (0) _ _ _ hP hS (lv_sub hl [2, 3, 4, 5, 6, 7, 1, 0] rfl) h
  unfold fX7_headerOf at h
  refine lv_aload_n C.1 C.2.1 dX7_headerOf_0 rfl (lv_at hl 0 rfl) ?_
  refine lv_iload_n C.1 C.2.1 dX7_headerOf_1 rfl (lv_at hl 1 rfl) ?_
  obtain ⟨r5, hc, h⟩ := bS h
  refine r_V1 C hK hX hb hP hS hl.1 (kX7_isCell (hT) hc) hT cl_7 wd_1474 mo_X7_isCell wd_1476 wd_63 ⟨Nat.le_of_ble_eq_true rfl, Nat.le_of_ble_eq_true rfl⟩ ⟨Nat.le_of_ble_eq_true rfl, Nat.le_of_ble_eq_true rfl⟩ rfl (rest := []) rfl (Nat.le_of_ble_eq_true rfl) dX7_headerOf_2 (fun H locs hP hS => ?_)
  refine b_ne (tgt := 10) C dX7_headerOf_5 (by decide) h (fun h => ?_) (fun h => ?_)
  · refine lv_iconst (v := (-1)) C.1 C.2.1 dX7_headerOf_8 (by decide) ?_
    have e := Option.some.inj h
    exact q_i C hlk hP hS hr (by rw [← e]) rfl dX7_headerOf_9
  · refine lv_aload_n C.1 C.2.1 dX7_headerOf_10 rfl (lv_at hl 0 rfl) ?_
    refine lv_iload_n C.1 C.2.1 dX7_headerOf_11 rfl (lv_at hl 1 rfl) ?_
    refine lv_iconst (v := 1) C.1 C.2.1 dX7_headerOf_12 (by decide) ?_
    obtain ⟨r6, hc, h⟩ := bS h
    refine r_V1 C hK hX hb hP hS hl.1 (kX7_of (hT) hc) hT cl_7 wd_1197 mo_X7_of wd_1199 wd_24 ⟨Nat.le_of_ble_eq_true rfl, Nat.le_of_ble_eq_true rfl⟩ ⟨Nat.le_of_ble_eq_true rfl, Nat.le_of_ble_eq_true rfl⟩ rfl (rest := []) rfl (Nat.le_of_ble_eq_true rfl) dX7_headerOf_13 (fun H locs hP hS => ?_)
    refine lv_istore_n (lv' := [(3, .int r6), (0, .ref a0), (1, .int a1), (2, .int a2)]) C.1 C.2.1 dX7_headerOf_16 rfl hl (by decide) rfl (fun ls hl => ?_)
    refine lv_aload_n C.1 C.2.1 dX7_headerOf_17 rfl (lv_at hl 1 rfl) ?_
    refine lv_iload_n C.1 C.2.1 dX7_headerOf_18 rfl (lv_at hl 0 rfl) ?_
    refine lv_iconst (v := 1) C.1 C.2.1 dX7_headerOf_19 (by decide) ?_
    obtain ⟨r7, hc, h⟩ := bS h
    refine r_V1 C hK hX hb hP hS hl.1 (kX7_of (hT) hc) hT cl_7 wd_1197 mo_X7_of wd_1199 wd_24 ⟨Nat.le_of_ble_eq_true rfl, Nat.le_of_ble_eq_true rfl⟩ ⟨Nat.le_of_ble_eq_true rfl, Nat.le_of_ble_eq_true rfl⟩ rfl (rest := []) rfl (Nat.le_of_ble_eq_true rfl) dX7_headerOf_20 (fun H locs hP hS => ?_)
    refine lv_istore (lv' := [(4, .int r7), (3, .int r6), (0, .ref a0), (1, .int a1), (2, .int a2)]) C.1 C.2.1 dX7_headerOf_23 hl (by decide) rfl (fun ls hl => ?_)
    refine lv_iconst (v := (-1)) C.1 C.2.1 dX7_headerOf_25 (by decide) ?_
    refine lv_istore (lv' := [(5, .int (-1)), (4, .int r7), (3, .int r6), (0, .ref a0), (1, .int a1), (2, .int a2)]) C.1 C.2.1 dX7_headerOf_26 hl (by decide) rfl (fun ls hl => ?_)
    refine lv_iload_n C.1 C.2.1 dX7_headerOf_28 rfl (lv_at hl 5 rfl) ?_
    refine b_eq (tgt := 41) C dX7_headerOf_29 (by decide) h (fun h => ?_) (fun h => ?_)
    · refine lv_aload_n C.1 C.2.1 dX7_headerOf_41 rfl (lv_at hl 3 rfl) ?_
      refine lv_iload_n C.1 C.2.1 dX7_headerOf_42 rfl (lv_at hl 4 rfl) ?_
      refine lv_iconst (v := 1) C.1 C.2.1 dX7_headerOf_43 (by decide) ?_
      obtain ⟨r8, hc, h⟩ := bS h
      refine r_V1 C hK hX hb hP hS hl.1 (kX7_numberOf (hT) hc) hT cl_7 wd_1482 mo_X7_numberOf wd_1484 wd_65 ⟨Nat.le_of_ble_eq_true rfl, Nat.le_of_ble_eq_true rfl⟩ ⟨Nat.le_of_ble_eq_true rfl, Nat.le_of_ble_eq_true rfl⟩ rfl (rest := []) rfl (Nat.le_of_ble_eq_true rfl) dX7_headerOf_44 (fun H locs hP hS => ?_)
      exact J47 (r6) (r7) ((-1)) (r8) _ _ _ hP hS (lv_sub hl [3, 4, 5, 2, 1, 0] rfl) h
    · refine lv_aload_n C.1 C.2.1 dX7_headerOf_32 rfl (lv_at hl 3 rfl) ?_
      refine lv_iload_n C.1 C.2.1 dX7_headerOf_33 rfl (lv_at hl 2 rfl) ?_
      refine lv_iconst (v := 0) C.1 C.2.1 dX7_headerOf_34 (by decide) ?_
      obtain ⟨r9, hc, h⟩ := bS h
      refine r_V1 C hK hX hb hP hS hl.1 (kX7_numberOf (hT) hc) hT cl_7 wd_1482 mo_X7_numberOf wd_1484 wd_65 ⟨Nat.le_of_ble_eq_true rfl, Nat.le_of_ble_eq_true rfl⟩ ⟨Nat.le_of_ble_eq_true rfl, Nat.le_of_ble_eq_true rfl⟩ rfl (rest := []) rfl (Nat.le_of_ble_eq_true rfl) dX7_headerOf_35 (fun H locs hP hS => ?_)
      refine lv_goto (tgt := 47) C.1 C.2.1 dX7_headerOf_38 (by decide) ?_
      exact J47 (r6) (r7) ((-1)) (r9) _ _ _ hP hS (lv_sub hl [3, 4, 5, 2, 1, 0] rfl) h
theorem dX7_header_0 : decode cX7_header 0 = .ok (.aload_n 0, 1) := by decide +kernel
theorem dX7_header_1 : decode cX7_header 1 = .ok (.aload_n 0, 1) := by decide +kernel
theorem dX7_header_2 : decode cX7_header 2 = .ok (.iload_n 1, 1) := by decide +kernel
theorem dX7_header_3 : decode cX7_header 3 = .ok (.invokevirtual 123, 3) := by decide +kernel
theorem dX7_header_6 : decode cX7_header 6 = .ok (.ifCond .eq 7, 3) := by decide +kernel
theorem dX7_header_9 : decode cX7_header 9 = .ok (.iconst 0, 1) := by decide +kernel
theorem dX7_header_10 : decode cX7_header 10 = .ok (.goto 4, 3) := by decide +kernel
theorem dX7_header_13 : decode cX7_header 13 = .ok (.iconst 1, 1) := by decide +kernel
theorem dX7_header_14 : decode cX7_header 14 = .ok (.putfield 29, 3) := by decide +kernel
theorem dX7_header_17 : decode cX7_header 17 = .ok (.aload_n 0, 1) := by decide +kernel
theorem dX7_header_18 : decode cX7_header 18 = .ok (.getfield 29, 3) := by decide +kernel
theorem dX7_header_21 : decode cX7_header 21 = .ok (.ifCond .eq 7, 3) := by decide +kernel
theorem dX7_header_24 : decode cX7_header 24 = .ok (.iconst 0, 1) := by decide +kernel
theorem dX7_header_25 : decode cX7_header 25 = .ok (.goto 9, 3) := by decide +kernel
theorem dX7_header_28 : decode cX7_header 28 = .ok (.aload_n 0, 1) := by decide +kernel
theorem dX7_header_29 : decode cX7_header 29 = .ok (.iload_n 1, 1) := by decide +kernel
theorem dX7_header_30 : decode cX7_header 30 = .ok (.iload_n 2, 1) := by decide +kernel
theorem dX7_header_31 : decode cX7_header 31 = .ok (.invokevirtual 206, 3) := by decide +kernel
theorem dX7_header_34 : decode cX7_header 34 = .ok (.ireturn, 1) := by decide +kernel
abbrev rmX7_header : Room := { frames := 6, cells := 0, slots := 0, locals := 163 }
noncomputable def fX7_header_14 (n : Nat) (Sh : Sp) (a0 : Nat) (a1 : Int32) (a2 : Int32) (M : Mm) (t0 : Nat) (t1 : Int32) : Option (Int32 × Mm) :=
  pI Sh M t0 7 5 t1 fun M1 =>
  tI M1 a0 5 fun x2 =>
  if x2 = 0 then
    (fX7_headerOf n Sh M1 a0 a1 a2).bind fun r3 =>
    some (r3, M1)
  else
    some (0, M1)
noncomputable def fX7_header (n : Nat) (Sh : Sp) (M : Mm) (a0 : Nat) (a1 : Int32) (a2 : Int32) : Option (Int32 × Mm) :=
  (fX7_isNode n Sh M a0 a1).bind fun r4 =>
  if r4 = 0 then
    fX7_header_14 n Sh a0 a1 a2 M a0 1
  else
    fX7_header_14 n Sh a0 a1 a2 M a0 0
set_option maxRecDepth 100000 in
set_option maxHeartbeats 4000000 in
theorem kX7_header {l : Launch} {G : Gt} {n : Nat} {Sh : Sp} {M : Mm} {a0 : Nat} {a1 : Int32} {a2 : Int32} (hT : Sh a0 = some (.inl 7)) {r : (Int32 × Mm)} (h : fX7_header n Sh M a0 a1 a2 = some r) : Ct l yX7_header cX7_header 3 (some .int) rmX7_header G Sh M [.ref a0, .int a1, .int a2] (some (.int r.1)) r.2 := by
  refine Ct.of (by decide) (Nat.le_of_ble_eq_true rfl) ?_
  intro p e s m args below meth c ls C hK hX hP hS hb hlk hr hl
  replace hl : lv_has ls 3 [(0, .ref a0), (1, .int a1), (2, .int a2)] := hl
  have J14 : ∀ (M : Mm) (t0 : Nat) (t1 : Int32) (H : Heap) (locs : List Loc) (ls : Array Slot), HM G Sh M H → SS G s s.heap.size H locs → lv_has ls 3 [(0, .ref a0), (1, .int a1), (2, .int a2)] → fX7_header_14 n Sh a0 a1 a2 M t0 t1 = some r → W p l e rmX7_header s m args below meth c H locs 0 0 (MQ below (QG G Sh r.2 (some (.int r.1))) args s rmX7_header.cells rmX7_header.slots (AA G)) (F0 m 14 ls [.int t1, .ref t0]) := by
    intro M t0 t1 H locs ls hP hS hl h
    unfold fX7_header_14 at h
    refine r_pI C hK hP hS cl_7 (k := 5) (by decide) wd_1149 rfl rfl (tyX7_ok 5 (by decide)) dX7_header_14 h (fun M1 H locs h hP hS => ?_)
    refine lv_aload_n C.1 C.2.1 dX7_header_17 rfl (lv_at hl 0 rfl) ?_
    refine r_tI C hK hP hT cl_7 (k := 5) (by decide) wd_1149 rfl dX7_header_18 h (fun x2 h => ?_)
    refine b_eq (tgt := 28) C dX7_header_21 (by decide) h (fun h => ?_) (fun h => ?_)
    · refine lv_aload_n C.1 C.2.1 dX7_header_28 rfl (lv_at hl 0 rfl) ?_
      refine lv_iload_n C.1 C.2.1 dX7_header_29 rfl (lv_at hl 1 rfl) ?_
      refine lv_iload_n C.1 C.2.1 dX7_header_30 rfl (lv_at hl 2 rfl) ?_
      obtain ⟨r3, hc, h⟩ := bS h
      refine r_V1 C hK hX hb hP hS hl.1 (kX7_headerOf (hT) hc) hT cl_7 wd_1502 mo_X7_headerOf wd_1504 wd_68 ⟨Nat.le_of_ble_eq_true rfl, Nat.le_of_ble_eq_true rfl⟩ ⟨Nat.le_of_ble_eq_true rfl, Nat.le_of_ble_eq_true rfl⟩ rfl (rest := []) rfl (Nat.le_of_ble_eq_true rfl) dX7_header_31 (fun H locs hP hS => ?_)
      have e := Option.some.inj h
      exact q_i C hlk hP hS hr (by rw [← e]) (by rw [← e]) dX7_header_34
    · refine lv_iconst (v := 0) C.1 C.2.1 dX7_header_24 (by decide) ?_
      refine lv_goto (tgt := 34) C.1 C.2.1 dX7_header_25 (by decide) ?_
      have e := Option.some.inj h
      exact q_i C hlk hP hS hr (by rw [← e]) (by rw [← e]) dX7_header_34
  unfold fX7_header at h
  refine lv_aload_n C.1 C.2.1 dX7_header_0 rfl (lv_at hl 0 rfl) ?_
  refine lv_aload_n C.1 C.2.1 dX7_header_1 rfl (lv_at hl 0 rfl) ?_
  refine lv_iload_n C.1 C.2.1 dX7_header_2 rfl (lv_at hl 1 rfl) ?_
  obtain ⟨r4, hc, h⟩ := bS h
  refine r_V1 C hK hX hb hP hS hl.1 (kX7_isNode (hT) hc) hT cl_7 wd_1190 mo_X7_isNode wd_1192 wd_23 ⟨Nat.le_of_ble_eq_true rfl, Nat.le_of_ble_eq_true rfl⟩ ⟨Nat.le_of_ble_eq_true rfl, Nat.le_of_ble_eq_true rfl⟩ rfl (rest := [.ref a0]) rfl (Nat.le_of_ble_eq_true rfl) dX7_header_3 (fun H locs hP hS => ?_)
  refine b_eq (tgt := 13) C dX7_header_6 (by decide) h (fun h => ?_) (fun h => ?_)
  · refine lv_iconst (v := 1) C.1 C.2.1 dX7_header_13 (by decide) ?_
    exact J14 (M) (a0) (1) _ _ _ hP hS (lv_sub hl [0, 1, 2] rfl) h
  · refine lv_iconst (v := 0) C.1 C.2.1 dX7_header_9 (by decide) ?_
    refine lv_goto (tgt := 14) C.1 C.2.1 dX7_header_10 (by decide) ?_
    exact J14 (M) (a0) (0) _ _ _ hP hS (lv_sub hl [0, 1, 2] rfl) h
theorem dX7_laysHeader_0 : decode cX7_laysHeader 0 = .ok (.aload_n 0, 1) := by decide +kernel
theorem dX7_laysHeader_1 : decode cX7_laysHeader 1 = .ok (.iload_n 1, 1) := by decide +kernel
theorem dX7_laysHeader_2 : decode cX7_laysHeader 2 = .ok (.iload_n 2, 1) := by decide +kernel
theorem dX7_laysHeader_3 : decode cX7_laysHeader 3 = .ok (.invokevirtual 206, 3) := by decide +kernel
theorem dX7_laysHeader_6 : decode cX7_laysHeader 6 = .ok (.istore_n 3, 1) := by decide +kernel
theorem dX7_laysHeader_7 : decode cX7_laysHeader 7 = .ok (.aload_n 0, 1) := by decide +kernel
theorem dX7_laysHeader_8 : decode cX7_laysHeader 8 = .ok (.getfield 7, 3) := by decide +kernel
theorem dX7_laysHeader_11 : decode cX7_laysHeader 11 = .ok (.sipush 3403, 3) := by decide +kernel
theorem dX7_laysHeader_14 : decode cX7_laysHeader 14 = .ok (.iaload, 1) := by decide +kernel
theorem dX7_laysHeader_15 : decode cX7_laysHeader 15 = .ok (.iconst (-1), 1) := by decide +kernel
theorem dX7_laysHeader_16 : decode cX7_laysHeader 16 = .ok (.if_icmp .eq 24, 3) := by decide +kernel
theorem dX7_laysHeader_19 : decode cX7_laysHeader 19 = .ok (.aload_n 0, 1) := by decide +kernel
theorem dX7_laysHeader_20 : decode cX7_laysHeader 20 = .ok (.aload_n 0, 1) := by decide +kernel
theorem dX7_laysHeader_21 : decode cX7_laysHeader 21 = .ok (.getfield 7, 3) := by decide +kernel
theorem dX7_laysHeader_24 : decode cX7_laysHeader 24 = .ok (.sipush 3403, 3) := by decide +kernel
theorem dX7_laysHeader_27 : decode cX7_laysHeader 27 = .ok (.iaload, 1) := by decide +kernel
theorem dX7_laysHeader_28 : decode cX7_laysHeader 28 = .ok (.iload_n 2, 1) := by decide +kernel
theorem dX7_laysHeader_29 : decode cX7_laysHeader 29 = .ok (.invokevirtual 206, 3) := by decide +kernel
theorem dX7_laysHeader_32 : decode cX7_laysHeader 32 = .ok (.iload_n 3, 1) := by decide +kernel
theorem dX7_laysHeader_33 : decode cX7_laysHeader 33 = .ok (.if_icmp .ne 7, 3) := by decide +kernel
theorem dX7_laysHeader_36 : decode cX7_laysHeader 36 = .ok (.iconst 1, 1) := by decide +kernel
theorem dX7_laysHeader_37 : decode cX7_laysHeader 37 = .ok (.goto 4, 3) := by decide +kernel
theorem dX7_laysHeader_40 : decode cX7_laysHeader 40 = .ok (.iconst 0, 1) := by decide +kernel
theorem dX7_laysHeader_41 : decode cX7_laysHeader 41 = .ok (.istore 4, 2) := by decide +kernel
theorem dX7_laysHeader_43 : decode cX7_laysHeader 43 = .ok (.iload_n 3, 1) := by decide +kernel
theorem dX7_laysHeader_44 : decode cX7_laysHeader 44 = .ok (.iconst (-1), 1) := by decide +kernel
theorem dX7_laysHeader_45 : decode cX7_laysHeader 45 = .ok (.if_icmp .eq 13, 3) := by decide +kernel
theorem dX7_laysHeader_48 : decode cX7_laysHeader 48 = .ok (.iload 4, 2) := by decide +kernel
theorem dX7_laysHeader_50 : decode cX7_laysHeader 50 = .ok (.ifCond .ne 8, 3) := by decide +kernel
theorem dX7_laysHeader_53 : decode cX7_laysHeader 53 = .ok (.aload_n 0, 1) := by decide +kernel
theorem dX7_laysHeader_54 : decode cX7_laysHeader 54 = .ok (.iload_n 3, 1) := by decide +kernel
theorem dX7_laysHeader_55 : decode cX7_laysHeader 55 = .ok (.invokevirtual 97, 3) := by decide +kernel
theorem dX7_laysHeader_58 : decode cX7_laysHeader 58 = .ok (.return_, 1) := by decide +kernel
abbrev rmX7_laysHeader : Room := { frames := 7, cells := 0, slots := 0, locals := 176 }
noncomputable def fX7_laysHeader_41 (n : Nat) (Sh : Sp) (a0 : Nat) (a1 : Int32) (a2 : Int32) (M : Mm) (v3 : Int32) (t0 : Int32) : Option Mm :=
  if v3 = (-1) then
    some M
  else
    if t0 = 0 then
      (fX7_laysPart n Sh M a0 v3).bind fun r1 =>
      some r1
    else
      some M
noncomputable def fX7_laysHeader_40 (n : Nat) (Sh : Sp) (a0 : Nat) (a1 : Int32) (a2 : Int32) (M : Mm) (v3 : Int32) : Option Mm :=
  fX7_laysHeader_41 n Sh a0 a1 a2 M v3 0
noncomputable def fX7_laysHeader (n : Nat) (Sh : Sp) (M : Mm) (a0 : Nat) (a1 : Int32) (a2 : Int32) : Option Mm :=
  (fX7_headerOf n Sh M a0 a1 a2).bind fun r2 =>
  tF M a0 0 fun b3 =>
  aI Sh M b3 0 3403 fun x4 =>
  if x4 = (-1) then
    fX7_laysHeader_40 n Sh a0 a1 a2 M r2
  else
    tF M a0 0 fun b5 =>
    aI Sh M b5 0 3403 fun x6 =>
    (fX7_headerOf n Sh M a0 x6 a2).bind fun r7 =>
    if r7 = r2 then
      fX7_laysHeader_41 n Sh a0 a1 a2 M r2 1
    else
      fX7_laysHeader_40 n Sh a0 a1 a2 M r2
set_option maxRecDepth 100000 in
set_option maxHeartbeats 4000000 in
theorem kX7_laysHeader {l : Launch} {G : Gt} {n : Nat} {Sh : Sp} {M : Mm} {a0 : Nat} {a1 : Int32} {a2 : Int32} (hT : Sh a0 = some (.inl 7)) {r : Mm} (h : fX7_laysHeader n Sh M a0 a1 a2 = some r) : Ct l yX7_laysHeader cX7_laysHeader 5 none rmX7_laysHeader G Sh M [.ref a0, .int a1, .int a2] none r := by
  refine Ct.of (by decide) (Nat.le_of_ble_eq_true rfl) ?_
  intro p e s m args below meth c ls C hK hX hP hS hb hlk hr hl
  replace hl : lv_has ls 5 [(0, .ref a0), (1, .int a1), (2, .int a2)] := hl
  have J41 : ∀ (M : Mm) (v3 : Int32) (t0 : Int32) (H : Heap) (locs : List Loc) (ls : Array Slot), HM G Sh M H → SS G s s.heap.size H locs → lv_has ls 5 [(0, .ref a0), (1, .int a1), (2, .int a2), (3, .int v3)] → fX7_laysHeader_41 n Sh a0 a1 a2 M v3 t0 = some r → W p l e rmX7_laysHeader s m args below meth c H locs 0 0 (MQ below (QG G Sh r none) args s rmX7_laysHeader.cells rmX7_laysHeader.slots (AA G)) (F0 m 41 ls [.int t0]) := by
    intro M v3 t0 H locs ls hP hS hl h
    unfold fX7_laysHeader_41 at h
    refine lv_istore (lv' := [(4, .int t0), (0, .ref a0), (1, .int a1), (2, .int a2), (3, .int v3)]) C.1 C.2.1 dX7_laysHeader_41 hl (by decide) rfl (fun ls hl => ?_)
    refine lv_iload_n C.1 C.2.1 dX7_laysHeader_43 rfl (lv_at hl 4 rfl) ?_
    refine lv_iconst (v := (-1)) C.1 C.2.1 dX7_laysHeader_44 (by decide) ?_
    refine b_ieq (tgt := 58) C dX7_laysHeader_45 (by decide) h (fun h => ?_) (fun h => ?_)
    · have e := Option.some.inj h
      exact q_v C hlk hP hS hr rfl e.symm dX7_laysHeader_58
    · refine lv_iload C.1 C.2.1 dX7_laysHeader_48 (lv_at hl 0 rfl) ?_
      refine b_ne (tgt := 58) C dX7_laysHeader_50 (by decide) h (fun h => ?_) (fun h => ?_)
      · refine lv_aload_n C.1 C.2.1 dX7_laysHeader_53 rfl (lv_at hl 1 rfl) ?_
        refine lv_iload_n C.1 C.2.1 dX7_laysHeader_54 rfl (lv_at hl 4 rfl) ?_
        obtain ⟨r1, hc, h⟩ := bS h
        refine r_V0 C hK hX hb hP hS hl.1 (kX7_laysPart (hT) hc) hT cl_7 wd_1342 mo_X7_laysPart wd_1344 wd_52 ⟨Nat.le_of_ble_eq_true rfl, Nat.le_of_ble_eq_true rfl⟩ ⟨Nat.le_of_ble_eq_true rfl, Nat.le_of_ble_eq_true rfl⟩ rfl (rest := []) rfl (Nat.le_of_ble_eq_true rfl) dX7_laysHeader_55 (fun H locs hP hS => ?_)
        have e := Option.some.inj h
        exact q_v C hlk hP hS hr rfl e.symm dX7_laysHeader_58
      · have e := Option.some.inj h
        exact q_v C hlk hP hS hr rfl e.symm dX7_laysHeader_58
  have J40 : ∀ (M : Mm) (v3 : Int32) (H : Heap) (locs : List Loc) (ls : Array Slot), HM G Sh M H → SS G s s.heap.size H locs → lv_has ls 5 [(0, .ref a0), (1, .int a1), (2, .int a2), (3, .int v3)] → fX7_laysHeader_40 n Sh a0 a1 a2 M v3 = some r → W p l e rmX7_laysHeader s m args below meth c H locs 0 0 (MQ below (QG G Sh r none) args s rmX7_laysHeader.cells rmX7_laysHeader.slots (AA G)) (F0 m 40 ls []) := by
    intro M v3 H locs ls hP hS hl h
    unfold fX7_laysHeader_40 at h
    refine lv_iconst (v := 0) C.1 C.2.1 dX7_laysHeader_40 (by decide) ?_
    exact J41 (M) (v3) (0) _ _ _ hP hS (lv_sub hl [0, 1, 2, 3] rfl) h
  unfold fX7_laysHeader at h
  refine lv_aload_n C.1 C.2.1 dX7_laysHeader_0 rfl (lv_at hl 0 rfl) ?_
  refine lv_iload_n C.1 C.2.1 dX7_laysHeader_1 rfl (lv_at hl 1 rfl) ?_
  refine lv_iload_n C.1 C.2.1 dX7_laysHeader_2 rfl (lv_at hl 2 rfl) ?_
  obtain ⟨r2, hc, h⟩ := bS h
  refine r_V1 C hK hX hb hP hS hl.1 (kX7_headerOf (hT) hc) hT cl_7 wd_1502 mo_X7_headerOf wd_1504 wd_68 ⟨Nat.le_of_ble_eq_true rfl, Nat.le_of_ble_eq_true rfl⟩ ⟨Nat.le_of_ble_eq_true rfl, Nat.le_of_ble_eq_true rfl⟩ rfl (rest := []) rfl (Nat.le_of_ble_eq_true rfl) dX7_laysHeader_3 (fun H locs hP hS => ?_)
  refine lv_istore_n (lv' := [(3, .int r2), (0, .ref a0), (1, .int a1), (2, .int a2)]) C.1 C.2.1 dX7_laysHeader_6 rfl hl (by decide) rfl (fun ls hl => ?_)
  refine lv_aload_n C.1 C.2.1 dX7_laysHeader_7 rfl (lv_at hl 1 rfl) ?_
  refine r_tF C hK hP hT cl_7 (k := 0) (by decide) wd_1144 rfl dX7_laysHeader_8 h (fun b3 h => ?_)
  refine lv_sipush (v := 3403) C.1 C.2.1 dX7_laysHeader_11 (by decide) ?_
  refine r_aI C hK hP dX7_laysHeader_14 h (fun x4 h => ?_)
  refine lv_iconst (v := (-1)) C.1 C.2.1 dX7_laysHeader_15 (by decide) ?_
  refine b_ieq (tgt := 40) C dX7_laysHeader_16 (by decide) h (fun h => ?_) (fun h => ?_)
  · exact J40 (M) (r2) _ _ _ hP hS (lv_sub hl [1, 2, 3, 0] rfl) h
  · refine lv_aload_n C.1 C.2.1 dX7_laysHeader_19 rfl (lv_at hl 1 rfl) ?_
    refine lv_aload_n C.1 C.2.1 dX7_laysHeader_20 rfl (lv_at hl 1 rfl) ?_
    refine r_tF C hK hP hT cl_7 (k := 0) (by decide) wd_1144 rfl dX7_laysHeader_21 h (fun b5 h => ?_)
    refine lv_sipush (v := 3403) C.1 C.2.1 dX7_laysHeader_24 (by decide) ?_
    refine r_aI C hK hP dX7_laysHeader_27 h (fun x6 h => ?_)
    refine lv_iload_n C.1 C.2.1 dX7_laysHeader_28 rfl (lv_at hl 3 rfl) ?_
    obtain ⟨r7, hc, h⟩ := bS h
    refine r_V1 C hK hX hb hP hS hl.1 (kX7_headerOf (hT) hc) hT cl_7 wd_1502 mo_X7_headerOf wd_1504 wd_68 ⟨Nat.le_of_ble_eq_true rfl, Nat.le_of_ble_eq_true rfl⟩ ⟨Nat.le_of_ble_eq_true rfl, Nat.le_of_ble_eq_true rfl⟩ rfl (rest := []) rfl (Nat.le_of_ble_eq_true rfl) dX7_laysHeader_29 (fun H locs hP hS => ?_)
    refine lv_iload_n C.1 C.2.1 dX7_laysHeader_32 rfl (lv_at hl 0 rfl) ?_
    refine b_ine (tgt := 40) C dX7_laysHeader_33 (by decide) h (fun h => ?_) (fun h => ?_)
    · refine lv_iconst (v := 1) C.1 C.2.1 dX7_laysHeader_36 (by decide) ?_
      refine lv_goto (tgt := 41) C.1 C.2.1 dX7_laysHeader_37 (by decide) ?_
      exact J41 (M) (r2) (1) _ _ _ hP hS (lv_sub hl [1, 2, 3, 0] rfl) h
    · exact J40 (M) (r2) _ _ _ hP hS (lv_sub hl [1, 2, 3, 0] rfl) h
theorem dX7_reads_0 : decode cX7_reads 0 = .ok (.aload_n 0, 1) := by decide +kernel
theorem dX7_reads_1 : decode cX7_reads 1 = .ok (.iconst 0, 1) := by decide +kernel
theorem dX7_reads_2 : decode cX7_reads 2 = .ok (.putfield 58, 3) := by decide +kernel
theorem dX7_reads_5 : decode cX7_reads 5 = .ok (.aload_n 0, 1) := by decide +kernel
theorem dX7_reads_6 : decode cX7_reads 6 = .ok (.iload_n 1, 1) := by decide +kernel
theorem dX7_reads_7 : decode cX7_reads 7 = .ok (.iconst 0, 1) := by decide +kernel
theorem dX7_reads_8 : decode cX7_reads 8 = .ok (.invokevirtual 209, 3) := by decide +kernel
theorem dX7_reads_11 : decode cX7_reads 11 = .ok (.aload_n 0, 1) := by decide +kernel
theorem dX7_reads_12 : decode cX7_reads 12 = .ok (.iload_n 1, 1) := by decide +kernel
theorem dX7_reads_13 : decode cX7_reads 13 = .ok (.iconst 1, 1) := by decide +kernel
theorem dX7_reads_14 : decode cX7_reads 14 = .ok (.invokevirtual 209, 3) := by decide +kernel
theorem dX7_reads_17 : decode cX7_reads 17 = .ok (.aload_n 0, 1) := by decide +kernel
theorem dX7_reads_18 : decode cX7_reads 18 = .ok (.iload_n 1, 1) := by decide +kernel
theorem dX7_reads_19 : decode cX7_reads 19 = .ok (.invokevirtual 97, 3) := by decide +kernel
theorem dX7_reads_22 : decode cX7_reads 22 = .ok (.aload_n 0, 1) := by decide +kernel
theorem dX7_reads_23 : decode cX7_reads 23 = .ok (.getfield 7, 3) := by decide +kernel
theorem dX7_reads_26 : decode cX7_reads 26 = .ok (.sipush 3161, 3) := by decide +kernel
theorem dX7_reads_29 : decode cX7_reads 29 = .ok (.aload_n 0, 1) := by decide +kernel
theorem dX7_reads_30 : decode cX7_reads 30 = .ok (.getfield 58, 3) := by decide +kernel
theorem dX7_reads_33 : decode cX7_reads 33 = .ok (.iastore, 1) := by decide +kernel
theorem dX7_reads_34 : decode cX7_reads 34 = .ok (.iconst 0, 1) := by decide +kernel
theorem dX7_reads_35 : decode cX7_reads 35 = .ok (.istore_n 2, 1) := by decide +kernel
theorem dX7_reads_36 : decode cX7_reads 36 = .ok (.iload_n 2, 1) := by decide +kernel
theorem dX7_reads_37 : decode cX7_reads 37 = .ok (.aload_n 0, 1) := by decide +kernel
theorem dX7_reads_38 : decode cX7_reads 38 = .ok (.getfield 58, 3) := by decide +kernel
theorem dX7_reads_41 : decode cX7_reads 41 = .ok (.if_icmp .ge 25, 3) := by decide +kernel
theorem dX7_reads_44 : decode cX7_reads 44 = .ok (.aload_n 0, 1) := by decide +kernel
theorem dX7_reads_45 : decode cX7_reads 45 = .ok (.getfield 7, 3) := by decide +kernel
theorem dX7_reads_48 : decode cX7_reads 48 = .ok (.sipush 3162, 3) := by decide +kernel
theorem dX7_reads_51 : decode cX7_reads 51 = .ok (.iload_n 2, 1) := by decide +kernel
theorem dX7_reads_52 : decode cX7_reads 52 = .ok (.iadd, 1) := by decide +kernel
theorem dX7_reads_53 : decode cX7_reads 53 = .ok (.aload_n 0, 1) := by decide +kernel
theorem dX7_reads_54 : decode cX7_reads 54 = .ok (.getfield 19, 3) := by decide +kernel
theorem dX7_reads_57 : decode cX7_reads 57 = .ok (.iload_n 2, 1) := by decide +kernel
theorem dX7_reads_58 : decode cX7_reads 58 = .ok (.iaload, 1) := by decide +kernel
theorem dX7_reads_59 : decode cX7_reads 59 = .ok (.iastore, 1) := by decide +kernel
theorem dX7_reads_60 : decode cX7_reads 60 = .ok (.iinc 2 1, 3) := by decide +kernel
theorem dX7_reads_63 : decode cX7_reads 63 = .ok (.goto (-27), 3) := by decide +kernel
theorem dX7_reads_66 : decode cX7_reads 66 = .ok (.aload_n 0, 1) := by decide +kernel
theorem dX7_reads_67 : decode cX7_reads 67 = .ok (.getfield 7, 3) := by decide +kernel
theorem dX7_reads_70 : decode cX7_reads 70 = .ok (.sipush 3403, 3) := by decide +kernel
theorem dX7_reads_73 : decode cX7_reads 73 = .ok (.iload_n 1, 1) := by decide +kernel
theorem dX7_reads_74 : decode cX7_reads 74 = .ok (.iastore, 1) := by decide +kernel
theorem dX7_reads_75 : decode cX7_reads 75 = .ok (.aload_n 0, 1) := by decide +kernel
theorem dX7_reads_76 : decode cX7_reads 76 = .ok (.getfield 58, 3) := by decide +kernel
theorem dX7_reads_79 : decode cX7_reads 79 = .ok (.ireturn, 1) := by decide +kernel
abbrev rmX7_reads : Room := { frames := 8, cells := 0, slots := 0, locals := 200 }
noncomputable def fX7_reads_66 (n : Nat) (Sh : Sp) (a0 : Nat) (a1 : Int32) (M : Mm) : Option (Int32 × Mm) :=
  tF M a0 0 fun b1 =>
  sI Sh M b1 3403 a1 fun M2 =>
  tI M2 a0 7 fun x3 =>
  some (x3, M2)
noncomputable def fX7_reads_36b (n : Nat) (Sh : Sp) (a0 : Nat) (a1 : Int32) (M : Mm) (v2 : Int32) : Option ((Int32 × Mm) ⊕ (Int32 × Mm)) :=
  tI M a0 7 fun x4 =>
  if v2 < x4 then
    tF M a0 0 fun b5 =>
    tF M a0 6 fun b6 =>
    aI Sh M b6 0 v2 fun x7 =>
    sI Sh M b5 (3162 + v2) x7 fun M8 =>
    some (Sum.inl ((v2 + 1), M8))
  else
    (fX7_reads_66 n Sh a0 a1 M).map Sum.inr
noncomputable def fX7_reads_36 (n : Nat) (Sh : Sp) (a0 : Nat) (a1 : Int32) (M : Mm) (v2 : Int32) : Option (Int32 × Mm) :=
  iter n (fun s => fX7_reads_36b n Sh a0 a1 s.2 s.1) (v2, M)
noncomputable def fX7_reads (n : Nat) (Sh : Sp) (M : Mm) (a0 : Nat) (a1 : Int32) : Option (Int32 × Mm) :=
  qI M a0 7 0 fun M9 =>
  (fX7_laysHeader n Sh M9 a0 a1 0).bind fun r10 =>
  (fX7_laysHeader n Sh r10 a0 a1 1).bind fun r11 =>
  (fX7_laysPart n Sh r11 a0 a1).bind fun r12 =>
  tF r12 a0 0 fun b13 =>
  tI r12 a0 7 fun x14 =>
  sI Sh r12 b13 3161 x14 fun M15 =>
  fX7_reads_36 n Sh a0 a1 M15 0
set_option maxRecDepth 100000 in
set_option maxHeartbeats 4000000 in
theorem kX7_reads {l : Launch} {G : Gt} {n : Nat} {Sh : Sp} {M : Mm} {a0 : Nat} {a1 : Int32} (hT : Sh a0 = some (.inl 7)) {r : (Int32 × Mm)} (h : fX7_reads n Sh M a0 a1 = some r) : Ct l yX7_reads cX7_reads 3 (some .int) rmX7_reads G Sh M [.ref a0, .int a1] (some (.int r.1)) r.2 := by
  refine Ct.of (by decide) (Nat.le_of_ble_eq_true rfl) ?_
  intro p e s m args below meth c ls C hK hX hP hS hb hlk hr hl
  replace hl : lv_has ls 3 [(0, .ref a0), (1, .int a1)] := hl
  have J66 : ∀ (M : Mm) (H : Heap) (locs : List Loc) (ls : Array Slot), HM G Sh M H → SS G s s.heap.size H locs → lv_has ls 3 [(0, .ref a0), (1, .int a1)] → fX7_reads_66 n Sh a0 a1 M = some r → W p l e rmX7_reads s m args below meth c H locs 0 0 (MQ below (QG G Sh r.2 (some (.int r.1))) args s rmX7_reads.cells rmX7_reads.slots (AA G)) (F0 m 66 ls []) := by
    intro M H locs ls hP hS hl h
    unfold fX7_reads_66 at h
    refine lv_aload_n C.1 C.2.1 dX7_reads_66 rfl (lv_at hl 0 rfl) ?_
    refine r_tF C hK hP hT cl_7 (k := 0) (by decide) wd_1144 rfl dX7_reads_67 h (fun b1 h => ?_)
    refine lv_sipush (v := 3403) C.1 C.2.1 dX7_reads_70 (by decide) ?_
    refine lv_iload_n C.1 C.2.1 dX7_reads_73 rfl (lv_at hl 1 rfl) ?_
    refine r_sI C hK hP hS dX7_reads_74 h (fun M2 H locs h hP hS => ?_)
    refine lv_aload_n C.1 C.2.1 dX7_reads_75 rfl (lv_at hl 0 rfl) ?_
    refine r_tI C hK hP hT cl_7 (k := 7) (by decide) wd_1151 rfl dX7_reads_76 h (fun x3 h => ?_)
    have e := Option.some.inj h
    exact q_i C hlk hP hS hr (by rw [← e]) (by rw [← e]) dX7_reads_79
  have J36 : ∀ (k : Nat) (v2 : Int32) (M : Mm) (H : Heap) (locs : List Loc) (ls : Array Slot), HM G Sh M H → SS G s s.heap.size H locs → lv_has ls 3 [(0, .ref a0), (1, .int a1), (2, .int v2)] → iter k (fun s => fX7_reads_36b n Sh a0 a1 s.2 s.1) (v2, M) = some r → W p l e rmX7_reads s m args below meth c H locs 0 0 (MQ below (QG G Sh r.2 (some (.int r.1))) args s rmX7_reads.cells rmX7_reads.slots (AA G)) (F0 m 36 ls []) := by
    intro k
    induction k with
    | zero => intro v2 M H locs ls hP hS hl h; exact (iter_0 h).elim
    | succ k ih1 =>
      intro v2 M H locs ls hP hS hl h
      obtain ⟨z1, h, hz1⟩ := iter_some h
      replace h : fX7_reads_36b n Sh a0 a1 M v2 = some z1 := h
      unfold fX7_reads_36b at h
      refine lv_iload_n C.1 C.2.1 dX7_reads_36 rfl (lv_at hl 2 rfl) ?_
      refine lv_aload_n C.1 C.2.1 dX7_reads_37 rfl (lv_at hl 0 rfl) ?_
      refine r_tI C hK hP hT cl_7 (k := 7) (by decide) wd_1151 rfl dX7_reads_38 h (fun x4 h => ?_)
      refine b_ige (tgt := 66) C dX7_reads_41 (by decide) h (fun h => ?_) (fun h => ?_)
      · refine lv_aload_n C.1 C.2.1 dX7_reads_44 rfl (lv_at hl 0 rfl) ?_
        refine r_tF C hK hP hT cl_7 (k := 0) (by decide) wd_1144 rfl dX7_reads_45 h (fun b5 h => ?_)
        refine lv_sipush (v := 3162) C.1 C.2.1 dX7_reads_48 (by decide) ?_
        refine lv_iload_n C.1 C.2.1 dX7_reads_51 rfl (lv_at hl 2 rfl) ?_
        refine lv_iadd C.1 C.2.1 dX7_reads_52 ?_
        refine lv_aload_n C.1 C.2.1 dX7_reads_53 rfl (lv_at hl 0 rfl) ?_
        refine r_tF C hK hP hT cl_7 (k := 6) (by decide) wd_1150 rfl dX7_reads_54 h (fun b6 h => ?_)
        refine lv_iload_n C.1 C.2.1 dX7_reads_57 rfl (lv_at hl 2 rfl) ?_
        refine r_aI C hK hP dX7_reads_58 h (fun x7 h => ?_)
        refine r_sI C hK hP hS dX7_reads_59 h (fun M8 H locs h hP hS => ?_)
        refine lv_iinc (v := (v2 + 1)) (lv' := [(2, .int (v2 + 1)), (0, .ref a0), (1, .int a1)]) C.1 C.2.1 dX7_reads_60 hl (k := 2) rfl rfl (by decide) rfl (fun ls hl => ?_)
        refine lv_goto (tgt := 36) C.1 C.2.1 dX7_reads_63 (by decide) ?_
        have e := Option.some.inj h
        rw [← e] at hz1
        exact ih1 ((v2 + 1)) M8 _ _ _ hP hS (lv_sub hl [1, 2, 0] rfl) (itK_inl hz1)
      · obtain ⟨w1, h, e⟩ := mS h
        rw [← e] at hz1
        replace e := itK_inr hz1
        rw [e] at h
        exact J66 (M) _ _ _ hP hS (lv_sub hl [0, 1] rfl) h
  unfold fX7_reads at h
  refine lv_aload_n C.1 C.2.1 dX7_reads_0 rfl (lv_at hl 0 rfl) ?_
  refine lv_iconst (v := 0) C.1 C.2.1 dX7_reads_1 (by decide) ?_
  refine r_qI C hK hP hS hT cl_7 (k := 7) (by decide) wd_1151 rfl rfl (tyX7_ok 7 (by decide)) dX7_reads_2 h (fun M9 H locs h hP hS => ?_)
  refine lv_aload_n C.1 C.2.1 dX7_reads_5 rfl (lv_at hl 0 rfl) ?_
  refine lv_iload_n C.1 C.2.1 dX7_reads_6 rfl (lv_at hl 1 rfl) ?_
  refine lv_iconst (v := 0) C.1 C.2.1 dX7_reads_7 (by decide) ?_
  obtain ⟨r10, hc, h⟩ := bS h
  refine r_V0 C hK hX hb hP hS hl.1 (kX7_laysHeader (hT) hc) hT cl_7 wd_1514 mo_X7_laysHeader wd_1516 wd_70 ⟨Nat.le_of_ble_eq_true rfl, Nat.le_of_ble_eq_true rfl⟩ ⟨Nat.le_of_ble_eq_true rfl, Nat.le_of_ble_eq_true rfl⟩ rfl (rest := []) rfl (Nat.le_of_ble_eq_true rfl) dX7_reads_8 (fun H locs hP hS => ?_)
  refine lv_aload_n C.1 C.2.1 dX7_reads_11 rfl (lv_at hl 0 rfl) ?_
  refine lv_iload_n C.1 C.2.1 dX7_reads_12 rfl (lv_at hl 1 rfl) ?_
  refine lv_iconst (v := 1) C.1 C.2.1 dX7_reads_13 (by decide) ?_
  obtain ⟨r11, hc, h⟩ := bS h
  refine r_V0 C hK hX hb hP hS hl.1 (kX7_laysHeader (hT) hc) hT cl_7 wd_1514 mo_X7_laysHeader wd_1516 wd_70 ⟨Nat.le_of_ble_eq_true rfl, Nat.le_of_ble_eq_true rfl⟩ ⟨Nat.le_of_ble_eq_true rfl, Nat.le_of_ble_eq_true rfl⟩ rfl (rest := []) rfl (Nat.le_of_ble_eq_true rfl) dX7_reads_14 (fun H locs hP hS => ?_)
  refine lv_aload_n C.1 C.2.1 dX7_reads_17 rfl (lv_at hl 0 rfl) ?_
  refine lv_iload_n C.1 C.2.1 dX7_reads_18 rfl (lv_at hl 1 rfl) ?_
  obtain ⟨r12, hc, h⟩ := bS h
  refine r_V0 C hK hX hb hP hS hl.1 (kX7_laysPart (hT) hc) hT cl_7 wd_1342 mo_X7_laysPart wd_1344 wd_52 ⟨Nat.le_of_ble_eq_true rfl, Nat.le_of_ble_eq_true rfl⟩ ⟨Nat.le_of_ble_eq_true rfl, Nat.le_of_ble_eq_true rfl⟩ rfl (rest := []) rfl (Nat.le_of_ble_eq_true rfl) dX7_reads_19 (fun H locs hP hS => ?_)
  refine lv_aload_n C.1 C.2.1 dX7_reads_22 rfl (lv_at hl 0 rfl) ?_
  refine r_tF C hK hP hT cl_7 (k := 0) (by decide) wd_1144 rfl dX7_reads_23 h (fun b13 h => ?_)
  refine lv_sipush (v := 3161) C.1 C.2.1 dX7_reads_26 (by decide) ?_
  refine lv_aload_n C.1 C.2.1 dX7_reads_29 rfl (lv_at hl 0 rfl) ?_
  refine r_tI C hK hP hT cl_7 (k := 7) (by decide) wd_1151 rfl dX7_reads_30 h (fun x14 h => ?_)
  refine r_sI C hK hP hS dX7_reads_33 h (fun M15 H locs h hP hS => ?_)
  refine lv_iconst (v := 0) C.1 C.2.1 dX7_reads_34 (by decide) ?_
  refine lv_istore_n (lv' := [(2, .int 0), (0, .ref a0), (1, .int a1)]) C.1 C.2.1 dX7_reads_35 rfl hl (by decide) rfl (fun ls hl => ?_)
  exact J36  n (0) M15 _ _ _ hP hS (lv_sub hl [1, 2, 0] rfl) h
theorem dX7_read_0 : decode cX7_read 0 = .ok (.aload_n 0, 1) := by decide +kernel
theorem dX7_read_1 : decode cX7_read 1 = .ok (.aload_n 0, 1) := by decide +kernel
theorem dX7_read_2 : decode cX7_read 2 = .ok (.iload_n 1, 1) := by decide +kernel
theorem dX7_read_3 : decode cX7_read 3 = .ok (.invokevirtual 123, 3) := by decide +kernel
theorem dX7_read_6 : decode cX7_read 6 = .ok (.ifCond .ne 7, 3) := by decide +kernel
theorem dX7_read_9 : decode cX7_read 9 = .ok (.iconst 1, 1) := by decide +kernel
theorem dX7_read_10 : decode cX7_read 10 = .ok (.goto 16, 3) := by decide +kernel
theorem dX7_read_13 : decode cX7_read 13 = .ok (.aload_n 0, 1) := by decide +kernel
theorem dX7_read_14 : decode cX7_read 14 = .ok (.iload_n 1, 1) := by decide +kernel
theorem dX7_read_15 : decode cX7_read 15 = .ok (.invokevirtual 195, 3) := by decide +kernel
theorem dX7_read_18 : decode cX7_read 18 = .ok (.ifCond .eq 7, 3) := by decide +kernel
theorem dX7_read_21 : decode cX7_read 21 = .ok (.iconst 0, 1) := by decide +kernel
theorem dX7_read_22 : decode cX7_read 22 = .ok (.goto 4, 3) := by decide +kernel
theorem dX7_read_25 : decode cX7_read 25 = .ok (.iconst 2, 1) := by decide +kernel
theorem dX7_read_26 : decode cX7_read 26 = .ok (.putfield 29, 3) := by decide +kernel
theorem dX7_read_29 : decode cX7_read 29 = .ok (.aload_n 0, 1) := by decide +kernel
theorem dX7_read_30 : decode cX7_read 30 = .ok (.getfield 29, 3) := by decide +kernel
theorem dX7_read_33 : decode cX7_read 33 = .ok (.ifCond .eq 5, 3) := by decide +kernel
theorem dX7_read_36 : decode cX7_read 36 = .ok (.iconst 0, 1) := by decide +kernel
theorem dX7_read_37 : decode cX7_read 37 = .ok (.ireturn, 1) := by decide +kernel
theorem dX7_read_38 : decode cX7_read 38 = .ok (.aload_n 0, 1) := by decide +kernel
theorem dX7_read_39 : decode cX7_read 39 = .ok (.invokevirtual 133, 3) := by decide +kernel
theorem dX7_read_42 : decode cX7_read 42 = .ok (.aload_n 0, 1) := by decide +kernel
theorem dX7_read_43 : decode cX7_read 43 = .ok (.iload_n 1, 1) := by decide +kernel
theorem dX7_read_44 : decode cX7_read 44 = .ok (.invokevirtual 213, 3) := by decide +kernel
theorem dX7_read_47 : decode cX7_read 47 = .ok (.ireturn, 1) := by decide +kernel
abbrev rmX7_read : Room := { frames := 9, cells := 0, slots := 0, locals := 222 }
noncomputable def fX7_read_26 (n : Nat) (Sh : Sp) (a0 : Nat) (a1 : Int32) (M : Mm) (t0 : Nat) (t1 : Int32) : Option (Int32 × Mm) :=
  pI Sh M t0 7 5 t1 fun M1 =>
  tI M1 a0 5 fun x2 =>
  if x2 = 0 then
    (fX7_keep n Sh M1 a0).bind fun r3 =>
    (fX7_reads n Sh r3 a0 a1).bind fun r4 =>
    some (r4.1, r4.2)
  else
    some (0, M1)
noncomputable def fX7_read (n : Nat) (Sh : Sp) (M : Mm) (a0 : Nat) (a1 : Int32) : Option (Int32 × Mm) :=
  (fX7_isNode n Sh M a0 a1).bind fun r5 =>
  if r5 = 0 then
    fX7_read_26 n Sh a0 a1 M a0 1
  else
    (fX7_isCell n Sh M a0 a1).bind fun r6 =>
    if r6 = 0 then
      fX7_read_26 n Sh a0 a1 M a0 2
    else
      fX7_read_26 n Sh a0 a1 M a0 0
set_option maxRecDepth 100000 in
set_option maxHeartbeats 4000000 in
theorem kX7_read {l : Launch} {G : Gt} {n : Nat} {Sh : Sp} {M : Mm} {a0 : Nat} {a1 : Int32} (hT : Sh a0 = some (.inl 7)) {r : (Int32 × Mm)} (h : fX7_read n Sh M a0 a1 = some r) : Ct l yX7_read cX7_read 2 (some .int) rmX7_read G Sh M [.ref a0, .int a1] (some (.int r.1)) r.2 := by
  refine Ct.of (by decide) (Nat.le_of_ble_eq_true rfl) ?_
  intro p e s m args below meth c ls C hK hX hP hS hb hlk hr hl
  replace hl : lv_has ls 2 [(0, .ref a0), (1, .int a1)] := hl
  have J26 : ∀ (M : Mm) (t0 : Nat) (t1 : Int32) (H : Heap) (locs : List Loc) (ls : Array Slot), HM G Sh M H → SS G s s.heap.size H locs → lv_has ls 2 [(0, .ref a0), (1, .int a1)] → fX7_read_26 n Sh a0 a1 M t0 t1 = some r → W p l e rmX7_read s m args below meth c H locs 0 0 (MQ below (QG G Sh r.2 (some (.int r.1))) args s rmX7_read.cells rmX7_read.slots (AA G)) (F0 m 26 ls [.int t1, .ref t0]) := by
    intro M t0 t1 H locs ls hP hS hl h
    unfold fX7_read_26 at h
    refine r_pI C hK hP hS cl_7 (k := 5) (by decide) wd_1149 rfl rfl (tyX7_ok 5 (by decide)) dX7_read_26 h (fun M1 H locs h hP hS => ?_)
    refine lv_aload_n C.1 C.2.1 dX7_read_29 rfl (lv_at hl 0 rfl) ?_
    refine r_tI C hK hP hT cl_7 (k := 5) (by decide) wd_1149 rfl dX7_read_30 h (fun x2 h => ?_)
    refine b_eq (tgt := 38) C dX7_read_33 (by decide) h (fun h => ?_) (fun h => ?_)
    · refine lv_aload_n C.1 C.2.1 dX7_read_38 rfl (lv_at hl 0 rfl) ?_
      obtain ⟨r3, hc, h⟩ := bS h
      refine r_V0 C hK hX hb hP hS hl.1 (kX7_keep (hT) hc) hT cl_7 wd_1209 mo_X7_keep wd_1211 wd_27 ⟨Nat.le_of_ble_eq_true rfl, Nat.le_of_ble_eq_true rfl⟩ ⟨Nat.le_of_ble_eq_true rfl, Nat.le_of_ble_eq_true rfl⟩ rfl (rest := []) rfl (Nat.le_of_ble_eq_true rfl) dX7_read_39 (fun H locs hP hS => ?_)
      refine lv_aload_n C.1 C.2.1 dX7_read_42 rfl (lv_at hl 0 rfl) ?_
      refine lv_iload_n C.1 C.2.1 dX7_read_43 rfl (lv_at hl 1 rfl) ?_
      obtain ⟨r4, hc, h⟩ := bS h
      refine r_V1 C hK hX hb hP hS hl.1 (kX7_reads (hT) hc) hT cl_7 wd_1510 mo_X7_reads wd_1512 wd_69 ⟨Nat.le_of_ble_eq_true rfl, Nat.le_of_ble_eq_true rfl⟩ ⟨Nat.le_of_ble_eq_true rfl, Nat.le_of_ble_eq_true rfl⟩ rfl (rest := []) rfl (Nat.le_of_ble_eq_true rfl) dX7_read_44 (fun H locs hP hS => ?_)
      have e := Option.some.inj h
      exact q_i C hlk hP hS hr (by rw [← e]) (by rw [← e]) dX7_read_47
    · refine lv_iconst (v := 0) C.1 C.2.1 dX7_read_36 (by decide) ?_
      have e := Option.some.inj h
      exact q_i C hlk hP hS hr (by rw [← e]) (by rw [← e]) dX7_read_37
  unfold fX7_read at h
  refine lv_aload_n C.1 C.2.1 dX7_read_0 rfl (lv_at hl 0 rfl) ?_
  refine lv_aload_n C.1 C.2.1 dX7_read_1 rfl (lv_at hl 0 rfl) ?_
  refine lv_iload_n C.1 C.2.1 dX7_read_2 rfl (lv_at hl 1 rfl) ?_
  obtain ⟨r5, hc, h⟩ := bS h
  refine r_V1 C hK hX hb hP hS hl.1 (kX7_isNode (hT) hc) hT cl_7 wd_1190 mo_X7_isNode wd_1192 wd_23 ⟨Nat.le_of_ble_eq_true rfl, Nat.le_of_ble_eq_true rfl⟩ ⟨Nat.le_of_ble_eq_true rfl, Nat.le_of_ble_eq_true rfl⟩ rfl (rest := [.ref a0]) rfl (Nat.le_of_ble_eq_true rfl) dX7_read_3 (fun H locs hP hS => ?_)
  refine b_ne (tgt := 13) C dX7_read_6 (by decide) h (fun h => ?_) (fun h => ?_)
  · refine lv_iconst (v := 1) C.1 C.2.1 dX7_read_9 (by decide) ?_
    refine lv_goto (tgt := 26) C.1 C.2.1 dX7_read_10 (by decide) ?_
    exact J26 (M) (a0) (1) _ _ _ hP hS (lv_sub hl [0, 1] rfl) h
  · refine lv_aload_n C.1 C.2.1 dX7_read_13 rfl (lv_at hl 0 rfl) ?_
    refine lv_iload_n C.1 C.2.1 dX7_read_14 rfl (lv_at hl 1 rfl) ?_
    obtain ⟨r6, hc, h⟩ := bS h
    refine r_V1 C hK hX hb hP hS hl.1 (kX7_isCell (hT) hc) hT cl_7 wd_1474 mo_X7_isCell wd_1476 wd_63 ⟨Nat.le_of_ble_eq_true rfl, Nat.le_of_ble_eq_true rfl⟩ ⟨Nat.le_of_ble_eq_true rfl, Nat.le_of_ble_eq_true rfl⟩ rfl (rest := [.ref a0]) rfl (Nat.le_of_ble_eq_true rfl) dX7_read_15 (fun H locs hP hS => ?_)
    refine b_eq (tgt := 25) C dX7_read_18 (by decide) h (fun h => ?_) (fun h => ?_)
    · refine lv_iconst (v := 2) C.1 C.2.1 dX7_read_25 (by decide) ?_
      exact J26 (M) (a0) (2) _ _ _ hP hS (lv_sub hl [0, 1] rfl) h
    · refine lv_iconst (v := 0) C.1 C.2.1 dX7_read_21 (by decide) ?_
      refine lv_goto (tgt := 26) C.1 C.2.1 dX7_read_22 (by decide) ?_
      exact J26 (M) (a0) (0) _ _ _ hP hS (lv_sub hl [0, 1] rfl) h
theorem dX7_beside_0 : decode cX7_beside 0 = .ok (.aload_n 0, 1) := by decide +kernel
theorem dX7_beside_1 : decode cX7_beside 1 = .ok (.iload_n 1, 1) := by decide +kernel
theorem dX7_beside_2 : decode cX7_beside 2 = .ok (.iconst 1, 1) := by decide +kernel
theorem dX7_beside_3 : decode cX7_beside 3 = .ok (.invokevirtual 40, 3) := by decide +kernel
theorem dX7_beside_6 : decode cX7_beside 6 = .ok (.istore_n 3, 1) := by decide +kernel
theorem dX7_beside_7 : decode cX7_beside 7 = .ok (.aload_n 0, 1) := by decide +kernel
theorem dX7_beside_8 : decode cX7_beside 8 = .ok (.iload_n 1, 1) := by decide +kernel
theorem dX7_beside_9 : decode cX7_beside 9 = .ok (.iconst 1, 1) := by decide +kernel
theorem dX7_beside_10 : decode cX7_beside 10 = .ok (.invokevirtual 198, 3) := by decide +kernel
theorem dX7_beside_13 : decode cX7_beside 13 = .ok (.istore 4, 2) := by decide +kernel
theorem dX7_beside_15 : decode cX7_beside 15 = .ok (.iload_n 2, 1) := by decide +kernel
theorem dX7_beside_16 : decode cX7_beside 16 = .ok (.iconst 2, 1) := by decide +kernel
theorem dX7_beside_17 : decode cX7_beside 17 = .ok (.if_icmp .ge 25, 3) := by decide +kernel
theorem dX7_beside_20 : decode cX7_beside 20 = .ok (.aload_n 0, 1) := by decide +kernel
theorem dX7_beside_21 : decode cX7_beside 21 = .ok (.iload_n 3, 1) := by decide +kernel
theorem dX7_beside_22 : decode cX7_beside 22 = .ok (.iload_n 2, 1) := by decide +kernel
theorem dX7_beside_23 : decode cX7_beside 23 = .ok (.ifCond .ne 10, 3) := by decide +kernel
theorem dX7_beside_26 : decode cX7_beside 26 = .ok (.iload 4, 2) := by decide +kernel
theorem dX7_beside_28 : decode cX7_beside 28 = .ok (.iconst 1, 1) := by decide +kernel
theorem dX7_beside_29 : decode cX7_beside 29 = .ok (.isub, 1) := by decide +kernel
theorem dX7_beside_30 : decode cX7_beside 30 = .ok (.goto 7, 3) := by decide +kernel
theorem dX7_beside_33 : decode cX7_beside 33 = .ok (.iload 4, 2) := by decide +kernel
theorem dX7_beside_35 : decode cX7_beside 35 = .ok (.iconst 1, 1) := by decide +kernel
theorem dX7_beside_36 : decode cX7_beside 36 = .ok (.iadd, 1) := by decide +kernel
theorem dX7_beside_37 : decode cX7_beside 37 = .ok (.iconst 1, 1) := by decide +kernel
theorem dX7_beside_38 : decode cX7_beside 38 = .ok (.invokevirtual 191, 3) := by decide +kernel
theorem dX7_beside_41 : decode cX7_beside 41 = .ok (.ireturn, 1) := by decide +kernel
theorem dX7_beside_42 : decode cX7_beside 42 = .ok (.aload_n 0, 1) := by decide +kernel
theorem dX7_beside_43 : decode cX7_beside 43 = .ok (.iload_n 3, 1) := by decide +kernel
theorem dX7_beside_44 : decode cX7_beside 44 = .ok (.iconst 0, 1) := by decide +kernel
theorem dX7_beside_45 : decode cX7_beside 45 = .ok (.invokevirtual 198, 3) := by decide +kernel
theorem dX7_beside_48 : decode cX7_beside 48 = .ok (.istore 5, 2) := by decide +kernel
theorem dX7_beside_50 : decode cX7_beside 50 = .ok (.aload_n 0, 1) := by decide +kernel
theorem dX7_beside_51 : decode cX7_beside 51 = .ok (.aload_n 0, 1) := by decide +kernel
theorem dX7_beside_52 : decode cX7_beside 52 = .ok (.iload_n 3, 1) := by decide +kernel
theorem dX7_beside_53 : decode cX7_beside 53 = .ok (.iconst 1, 1) := by decide +kernel
theorem dX7_beside_54 : decode cX7_beside 54 = .ok (.invokevirtual 40, 3) := by decide +kernel
theorem dX7_beside_57 : decode cX7_beside 57 = .ok (.iload_n 2, 1) := by decide +kernel
theorem dX7_beside_58 : decode cX7_beside 58 = .ok (.iconst 2, 1) := by decide +kernel
theorem dX7_beside_59 : decode cX7_beside 59 = .ok (.if_icmp .ne 10, 3) := by decide +kernel
theorem dX7_beside_62 : decode cX7_beside 62 = .ok (.iload 5, 2) := by decide +kernel
theorem dX7_beside_64 : decode cX7_beside 64 = .ok (.iconst 1, 1) := by decide +kernel
theorem dX7_beside_65 : decode cX7_beside 65 = .ok (.isub, 1) := by decide +kernel
theorem dX7_beside_66 : decode cX7_beside 66 = .ok (.goto 7, 3) := by decide +kernel
theorem dX7_beside_69 : decode cX7_beside 69 = .ok (.iload 5, 2) := by decide +kernel
theorem dX7_beside_71 : decode cX7_beside 71 = .ok (.iconst 1, 1) := by decide +kernel
theorem dX7_beside_72 : decode cX7_beside 72 = .ok (.iadd, 1) := by decide +kernel
theorem dX7_beside_73 : decode cX7_beside 73 = .ok (.iload 4, 2) := by decide +kernel
theorem dX7_beside_75 : decode cX7_beside 75 = .ok (.invokevirtual 202, 3) := by decide +kernel
theorem dX7_beside_78 : decode cX7_beside 78 = .ok (.ireturn, 1) := by decide +kernel
abbrev rmX7_beside : Room := { frames := 5, cells := 0, slots := 0, locals := 135 }
noncomputable def fX7_beside_73 (n : Nat) (Sh : Sp) (M : Mm) (a0 : Nat) (a1 : Int32) (a2 : Int32) (v4 : Int32) (t0 : Nat) (t1 : Int32) (t2 : Int32) : Option Int32 :=
  chk (Sh t0 = some (.inl 7)) <|
  (fX7_cellOf n Sh M t0 t1 t2 v4).bind fun r1 =>
  some r1
noncomputable def fX7_beside_37 (n : Nat) (Sh : Sp) (M : Mm) (a0 : Nat) (a1 : Int32) (a2 : Int32) (t0 : Nat) (t1 : Int32) (t2 : Int32) : Option Int32 :=
  chk (Sh t0 = some (.inl 7)) <|
  (fX7_numbered n Sh M t0 t1 t2 1).bind fun r2 =>
  some r2
noncomputable def fX7_beside (n : Nat) (Sh : Sp) (M : Mm) (a0 : Nat) (a1 : Int32) (a2 : Int32) : Option Int32 :=
  (fX7_of n Sh M a0 a1 1).bind fun r3 =>
  (fX7_numberOf n Sh M a0 a1 1).bind fun r4 =>
  if a2 < 2 then
    if a2 = 0 then
      fX7_beside_37 n Sh M a0 a1 a2 a0 r3 (r4 - 1)
    else
      fX7_beside_37 n Sh M a0 a1 a2 a0 r3 (r4 + 1)
  else
    (fX7_numberOf n Sh M a0 r3 0).bind fun r5 =>
    (fX7_of n Sh M a0 r3 1).bind fun r6 =>
    if a2 = 2 then
      fX7_beside_73 n Sh M a0 a1 a2 r4 a0 r6 (r5 - 1)
    else
      fX7_beside_73 n Sh M a0 a1 a2 r4 a0 r6 (r5 + 1)
set_option maxRecDepth 100000 in
set_option maxHeartbeats 4000000 in
theorem kX7_beside {l : Launch} {G : Gt} {n : Nat} {Sh : Sp} {M : Mm} {a0 : Nat} {a1 : Int32} {a2 : Int32} (hT : Sh a0 = some (.inl 7)) {r : Int32} (h : fX7_beside n Sh M a0 a1 a2 = some r) : Ct l yX7_beside cX7_beside 6 (some .int) rmX7_beside G Sh M [.ref a0, .int a1, .int a2] (some (.int r)) M := by
  refine Ct.of (by decide) (Nat.le_of_ble_eq_true rfl) ?_
  intro p e s m args below meth c ls C hK hX hP hS hb hlk hr hl
  replace hl : lv_has ls 6 [(0, .ref a0), (1, .int a1), (2, .int a2)] := hl
  have J73 : ∀ (v4 : Int32) (t0 : Nat) (t1 : Int32) (t2 : Int32) (H : Heap) (locs : List Loc) (ls : Array Slot), HM G Sh M H → SS G s s.heap.size H locs → lv_has ls 6 [(0, .ref a0), (1, .int a1), (2, .int a2), (4, .int v4)] → fX7_beside_73 n Sh M a0 a1 a2 v4 t0 t1 t2 = some r → W p l e rmX7_beside s m args below meth c H locs 0 0 (MQ below (QG G Sh M (some (.int r))) args s rmX7_beside.cells rmX7_beside.slots (AA G)) (F0 m 73 ls [.int t2, .int t1, .ref t0]) := by
    intro v4 t0 t1 t2 H locs ls hP hS hl h
    unfold fX7_beside_73 at h
    refine lv_iload C.1 C.2.1 dX7_beside_73 (lv_at hl 3 rfl) ?_
    obtain ⟨hs, h⟩ := chk_some h
    obtain ⟨r1, hc, h⟩ := bS h
    refine r_V1 C hK hX hb hP hS hl.1 (kX7_cellOf (hs) hc) hs cl_7 wd_1490 mo_X7_cellOf wd_1492 wd_66 ⟨Nat.le_of_ble_eq_true rfl, Nat.le_of_ble_eq_true rfl⟩ ⟨Nat.le_of_ble_eq_true rfl, Nat.le_of_ble_eq_true rfl⟩ rfl (rest := []) rfl (Nat.le_of_ble_eq_true rfl) dX7_beside_75 (fun H locs hP hS => ?_)
    have e := Option.some.inj h
    exact q_i C hlk hP hS hr (by rw [← e]) rfl dX7_beside_78
  have J37 : ∀ (t0 : Nat) (t1 : Int32) (t2 : Int32) (H : Heap) (locs : List Loc) (ls : Array Slot), HM G Sh M H → SS G s s.heap.size H locs → lv_has ls 6 [(0, .ref a0), (1, .int a1), (2, .int a2)] → fX7_beside_37 n Sh M a0 a1 a2 t0 t1 t2 = some r → W p l e rmX7_beside s m args below meth c H locs 0 0 (MQ below (QG G Sh M (some (.int r))) args s rmX7_beside.cells rmX7_beside.slots (AA G)) (F0 m 37 ls [.int t2, .int t1, .ref t0]) := by
    intro t0 t1 t2 H locs ls hP hS hl h
    unfold fX7_beside_37 at h
    refine lv_iconst (v := 1) C.1 C.2.1 dX7_beside_37 (by decide) ?_
    obtain ⟨hs, h⟩ := chk_some h
    obtain ⟨r2, hc, h⟩ := bS h
    refine r_V1 C hK hX hb hP hS hl.1 (kX7_numbered (hs) hc) hs cl_7 wd_1494 mo_X7_numbered wd_1496 wd_67 ⟨Nat.le_of_ble_eq_true rfl, Nat.le_of_ble_eq_true rfl⟩ ⟨Nat.le_of_ble_eq_true rfl, Nat.le_of_ble_eq_true rfl⟩ rfl (rest := []) rfl (Nat.le_of_ble_eq_true rfl) dX7_beside_38 (fun H locs hP hS => ?_)
    have e := Option.some.inj h
    exact q_i C hlk hP hS hr (by rw [← e]) rfl dX7_beside_41
  unfold fX7_beside at h
  refine lv_aload_n C.1 C.2.1 dX7_beside_0 rfl (lv_at hl 0 rfl) ?_
  refine lv_iload_n C.1 C.2.1 dX7_beside_1 rfl (lv_at hl 1 rfl) ?_
  refine lv_iconst (v := 1) C.1 C.2.1 dX7_beside_2 (by decide) ?_
  obtain ⟨r3, hc, h⟩ := bS h
  refine r_V1 C hK hX hb hP hS hl.1 (kX7_of (hT) hc) hT cl_7 wd_1197 mo_X7_of wd_1199 wd_24 ⟨Nat.le_of_ble_eq_true rfl, Nat.le_of_ble_eq_true rfl⟩ ⟨Nat.le_of_ble_eq_true rfl, Nat.le_of_ble_eq_true rfl⟩ rfl (rest := []) rfl (Nat.le_of_ble_eq_true rfl) dX7_beside_3 (fun H locs hP hS => ?_)
  refine lv_istore_n (lv' := [(3, .int r3), (0, .ref a0), (1, .int a1), (2, .int a2)]) C.1 C.2.1 dX7_beside_6 rfl hl (by decide) rfl (fun ls hl => ?_)
  refine lv_aload_n C.1 C.2.1 dX7_beside_7 rfl (lv_at hl 1 rfl) ?_
  refine lv_iload_n C.1 C.2.1 dX7_beside_8 rfl (lv_at hl 2 rfl) ?_
  refine lv_iconst (v := 1) C.1 C.2.1 dX7_beside_9 (by decide) ?_
  obtain ⟨r4, hc, h⟩ := bS h
  refine r_V1 C hK hX hb hP hS hl.1 (kX7_numberOf (hT) hc) hT cl_7 wd_1482 mo_X7_numberOf wd_1484 wd_65 ⟨Nat.le_of_ble_eq_true rfl, Nat.le_of_ble_eq_true rfl⟩ ⟨Nat.le_of_ble_eq_true rfl, Nat.le_of_ble_eq_true rfl⟩ rfl (rest := []) rfl (Nat.le_of_ble_eq_true rfl) dX7_beside_10 (fun H locs hP hS => ?_)
  refine lv_istore (lv' := [(4, .int r4), (3, .int r3), (0, .ref a0), (1, .int a1), (2, .int a2)]) C.1 C.2.1 dX7_beside_13 hl (by decide) rfl (fun ls hl => ?_)
  refine lv_iload_n C.1 C.2.1 dX7_beside_15 rfl (lv_at hl 4 rfl) ?_
  refine lv_iconst (v := 2) C.1 C.2.1 dX7_beside_16 (by decide) ?_
  refine b_ige (tgt := 42) C dX7_beside_17 (by decide) h (fun h => ?_) (fun h => ?_)
  · refine lv_aload_n C.1 C.2.1 dX7_beside_20 rfl (lv_at hl 2 rfl) ?_
    refine lv_iload_n C.1 C.2.1 dX7_beside_21 rfl (lv_at hl 1 rfl) ?_
    refine lv_iload_n C.1 C.2.1 dX7_beside_22 rfl (lv_at hl 4 rfl) ?_
    refine b_ne (tgt := 33) C dX7_beside_23 (by decide) h (fun h => ?_) (fun h => ?_)
    · refine lv_iload C.1 C.2.1 dX7_beside_26 (lv_at hl 0 rfl) ?_
      refine lv_iconst (v := 1) C.1 C.2.1 dX7_beside_28 (by decide) ?_
      refine lv_isub C.1 C.2.1 dX7_beside_29 ?_
      refine lv_goto (tgt := 37) C.1 C.2.1 dX7_beside_30 (by decide) ?_
      exact J37 (a0) (r3) ((r4 - 1)) _ _ _ hP hS (lv_sub hl [2, 3, 4] rfl) h
    · refine lv_iload C.1 C.2.1 dX7_beside_33 (lv_at hl 0 rfl) ?_
      refine lv_iconst (v := 1) C.1 C.2.1 dX7_beside_35 (by decide) ?_
      refine lv_iadd C.1 C.2.1 dX7_beside_36 ?_
      exact J37 (a0) (r3) ((r4 + 1)) _ _ _ hP hS (lv_sub hl [2, 3, 4] rfl) h
  · refine lv_aload_n C.1 C.2.1 dX7_beside_42 rfl (lv_at hl 2 rfl) ?_
    refine lv_iload_n C.1 C.2.1 dX7_beside_43 rfl (lv_at hl 1 rfl) ?_
    refine lv_iconst (v := 0) C.1 C.2.1 dX7_beside_44 (by decide) ?_
    obtain ⟨r5, hc, h⟩ := bS h
    refine r_V1 C hK hX hb hP hS hl.1 (kX7_numberOf (hT) hc) hT cl_7 wd_1482 mo_X7_numberOf wd_1484 wd_65 ⟨Nat.le_of_ble_eq_true rfl, Nat.le_of_ble_eq_true rfl⟩ ⟨Nat.le_of_ble_eq_true rfl, Nat.le_of_ble_eq_true rfl⟩ rfl (rest := []) rfl (Nat.le_of_ble_eq_true rfl) dX7_beside_45 (fun H locs hP hS => ?_)
    refine lv_istore (lv' := [(5, .int r5), (4, .int r4), (3, .int r3), (0, .ref a0), (1, .int a1), (2, .int a2)]) C.1 C.2.1 dX7_beside_48 hl (by decide) rfl (fun ls hl => ?_)
    refine lv_aload_n C.1 C.2.1 dX7_beside_50 rfl (lv_at hl 3 rfl) ?_
    refine lv_aload_n C.1 C.2.1 dX7_beside_51 rfl (lv_at hl 3 rfl) ?_
    refine lv_iload_n C.1 C.2.1 dX7_beside_52 rfl (lv_at hl 2 rfl) ?_
    refine lv_iconst (v := 1) C.1 C.2.1 dX7_beside_53 (by decide) ?_
    obtain ⟨r6, hc, h⟩ := bS h
    refine r_V1 C hK hX hb hP hS hl.1 (kX7_of (hT) hc) hT cl_7 wd_1197 mo_X7_of wd_1199 wd_24 ⟨Nat.le_of_ble_eq_true rfl, Nat.le_of_ble_eq_true rfl⟩ ⟨Nat.le_of_ble_eq_true rfl, Nat.le_of_ble_eq_true rfl⟩ rfl (rest := [.ref a0]) rfl (Nat.le_of_ble_eq_true rfl) dX7_beside_54 (fun H locs hP hS => ?_)
    refine lv_iload_n C.1 C.2.1 dX7_beside_57 rfl (lv_at hl 5 rfl) ?_
    refine lv_iconst (v := 2) C.1 C.2.1 dX7_beside_58 (by decide) ?_
    refine b_ine (tgt := 69) C dX7_beside_59 (by decide) h (fun h => ?_) (fun h => ?_)
    · refine lv_iload C.1 C.2.1 dX7_beside_62 (lv_at hl 0 rfl) ?_
      refine lv_iconst (v := 1) C.1 C.2.1 dX7_beside_64 (by decide) ?_
      refine lv_isub C.1 C.2.1 dX7_beside_65 ?_
      refine lv_goto (tgt := 73) C.1 C.2.1 dX7_beside_66 (by decide) ?_
      exact J73 (r4) (a0) (r6) ((r5 - 1)) _ _ _ hP hS (lv_sub hl [3, 4, 5, 1] rfl) h
    · refine lv_iload C.1 C.2.1 dX7_beside_69 (lv_at hl 0 rfl) ?_
      refine lv_iconst (v := 1) C.1 C.2.1 dX7_beside_71 (by decide) ?_
      refine lv_iadd C.1 C.2.1 dX7_beside_72 ?_
      exact J73 (r4) (a0) (r6) ((r5 + 1)) _ _ _ hP hS (lv_sub hl [3, 4, 5, 1] rfl) h
theorem dX7_readBeside_0 : decode cX7_readBeside 0 = .ok (.aload_n 0, 1) := by decide +kernel
theorem dX7_readBeside_1 : decode cX7_readBeside 1 = .ok (.iload_n 1, 1) := by decide +kernel
theorem dX7_readBeside_2 : decode cX7_readBeside 2 = .ok (.iconst 0, 1) := by decide +kernel
theorem dX7_readBeside_3 : decode cX7_readBeside 3 = .ok (.iconst 3, 1) := by decide +kernel
theorem dX7_readBeside_4 : decode cX7_readBeside 4 = .ok (.invokestatic 36, 3) := by decide +kernel
theorem dX7_readBeside_7 : decode cX7_readBeside 7 = .ok (.ifCond .eq 7, 3) := by decide +kernel
theorem dX7_readBeside_10 : decode cX7_readBeside 10 = .ok (.iconst 0, 1) := by decide +kernel
theorem dX7_readBeside_11 : decode cX7_readBeside 11 = .ok (.goto 4, 3) := by decide +kernel
theorem dX7_readBeside_14 : decode cX7_readBeside 14 = .ok (.iconst 1, 1) := by decide +kernel
theorem dX7_readBeside_15 : decode cX7_readBeside 15 = .ok (.putfield 29, 3) := by decide +kernel
theorem dX7_readBeside_18 : decode cX7_readBeside 18 = .ok (.aload_n 0, 1) := by decide +kernel
theorem dX7_readBeside_19 : decode cX7_readBeside 19 = .ok (.getfield 29, 3) := by decide +kernel
theorem dX7_readBeside_22 : decode cX7_readBeside 22 = .ok (.ifCond .eq 5, 3) := by decide +kernel
theorem dX7_readBeside_25 : decode cX7_readBeside 25 = .ok (.iconst 0, 1) := by decide +kernel
theorem dX7_readBeside_26 : decode cX7_readBeside 26 = .ok (.ireturn, 1) := by decide +kernel
theorem dX7_readBeside_27 : decode cX7_readBeside 27 = .ok (.aload_n 0, 1) := by decide +kernel
theorem dX7_readBeside_28 : decode cX7_readBeside 28 = .ok (.getfield 7, 3) := by decide +kernel
theorem dX7_readBeside_31 : decode cX7_readBeside 31 = .ok (.sipush 3403, 3) := by decide +kernel
theorem dX7_readBeside_34 : decode cX7_readBeside 34 = .ok (.iaload, 1) := by decide +kernel
theorem dX7_readBeside_35 : decode cX7_readBeside 35 = .ok (.iconst (-1), 1) := by decide +kernel
theorem dX7_readBeside_36 : decode cX7_readBeside 36 = .ok (.if_icmp .eq 34, 3) := by decide +kernel
theorem dX7_readBeside_39 : decode cX7_readBeside 39 = .ok (.aload_n 0, 1) := by decide +kernel
theorem dX7_readBeside_40 : decode cX7_readBeside 40 = .ok (.aload_n 0, 1) := by decide +kernel
theorem dX7_readBeside_41 : decode cX7_readBeside 41 = .ok (.getfield 7, 3) := by decide +kernel
theorem dX7_readBeside_44 : decode cX7_readBeside 44 = .ok (.sipush 3403, 3) := by decide +kernel
theorem dX7_readBeside_47 : decode cX7_readBeside 47 = .ok (.iaload, 1) := by decide +kernel
theorem dX7_readBeside_48 : decode cX7_readBeside 48 = .ok (.invokevirtual 195, 3) := by decide +kernel
theorem dX7_readBeside_51 : decode cX7_readBeside 51 = .ok (.ifCond .eq 19, 3) := by decide +kernel
theorem dX7_readBeside_54 : decode cX7_readBeside 54 = .ok (.aload_n 0, 1) := by decide +kernel
theorem dX7_readBeside_55 : decode cX7_readBeside 55 = .ok (.aload_n 0, 1) := by decide +kernel
theorem dX7_readBeside_56 : decode cX7_readBeside 56 = .ok (.getfield 7, 3) := by decide +kernel
theorem dX7_readBeside_59 : decode cX7_readBeside 59 = .ok (.sipush 3403, 3) := by decide +kernel
theorem dX7_readBeside_62 : decode cX7_readBeside 62 = .ok (.iaload, 1) := by decide +kernel
theorem dX7_readBeside_63 : decode cX7_readBeside 63 = .ok (.iload_n 1, 1) := by decide +kernel
theorem dX7_readBeside_64 : decode cX7_readBeside 64 = .ok (.invokevirtual 216, 3) := by decide +kernel
theorem dX7_readBeside_67 : decode cX7_readBeside 67 = .ok (.goto 4, 3) := by decide +kernel
theorem dX7_readBeside_70 : decode cX7_readBeside 70 = .ok (.iconst (-1), 1) := by decide +kernel
theorem dX7_readBeside_71 : decode cX7_readBeside 71 = .ok (.istore_n 2, 1) := by decide +kernel
theorem dX7_readBeside_72 : decode cX7_readBeside 72 = .ok (.iload_n 2, 1) := by decide +kernel
theorem dX7_readBeside_73 : decode cX7_readBeside 73 = .ok (.iconst (-1), 1) := by decide +kernel
theorem dX7_readBeside_74 : decode cX7_readBeside 74 = .ok (.if_icmp .ne 10, 3) := by decide +kernel
theorem dX7_readBeside_77 : decode cX7_readBeside 77 = .ok (.aload_n 0, 1) := by decide +kernel
theorem dX7_readBeside_78 : decode cX7_readBeside 78 = .ok (.iconst 2, 1) := by decide +kernel
theorem dX7_readBeside_79 : decode cX7_readBeside 79 = .ok (.putfield 29, 3) := by decide +kernel
theorem dX7_readBeside_82 : decode cX7_readBeside 82 = .ok (.iconst 0, 1) := by decide +kernel
theorem dX7_readBeside_83 : decode cX7_readBeside 83 = .ok (.ireturn, 1) := by decide +kernel
theorem dX7_readBeside_84 : decode cX7_readBeside 84 = .ok (.aload_n 0, 1) := by decide +kernel
theorem dX7_readBeside_85 : decode cX7_readBeside 85 = .ok (.invokevirtual 133, 3) := by decide +kernel
theorem dX7_readBeside_88 : decode cX7_readBeside 88 = .ok (.aload_n 0, 1) := by decide +kernel
theorem dX7_readBeside_89 : decode cX7_readBeside 89 = .ok (.iload_n 2, 1) := by decide +kernel
theorem dX7_readBeside_90 : decode cX7_readBeside 90 = .ok (.invokevirtual 213, 3) := by decide +kernel
theorem dX7_readBeside_93 : decode cX7_readBeside 93 = .ok (.istore_n 3, 1) := by decide +kernel
theorem dX7_readBeside_94 : decode cX7_readBeside 94 = .ok (.iload_n 2, 1) := by decide +kernel
theorem dX7_readBeside_95 : decode cX7_readBeside 95 = .ok (.ireturn, 1) := by decide +kernel
abbrev rmX7_readBeside : Room := { frames := 9, cells := 0, slots := 0, locals := 222 }
noncomputable def fX7_readBeside_71 (n : Nat) (Sh : Sp) (a0 : Nat) (a1 : Int32) (M : Mm) (t0 : Int32) : Option (Int32 × Mm) :=
  if t0 = (-1) then
    qI M a0 5 2 fun M1 =>
    some (0, M1)
  else
    (fX7_keep n Sh M a0).bind fun r2 =>
    (fX7_reads n Sh r2 a0 t0).bind fun r3 =>
    some (t0, r3.2)
noncomputable def fX7_readBeside_70 (n : Nat) (Sh : Sp) (a0 : Nat) (a1 : Int32) (M : Mm) : Option (Int32 × Mm) :=
  fX7_readBeside_71 n Sh a0 a1 M (-1)
noncomputable def fX7_readBeside_15 (n : Nat) (Sh : Sp) (a0 : Nat) (a1 : Int32) (M : Mm) (t0 : Nat) (t1 : Int32) : Option (Int32 × Mm) :=
  pI Sh M t0 7 5 t1 fun M4 =>
  tI M4 a0 5 fun x5 =>
  if x5 = 0 then
    tF M4 a0 0 fun b6 =>
    aI Sh M4 b6 0 3403 fun x7 =>
    if x7 = (-1) then
      fX7_readBeside_70 n Sh a0 a1 M4
    else
      tF M4 a0 0 fun b8 =>
      aI Sh M4 b8 0 3403 fun x9 =>
      (fX7_isCell n Sh M4 a0 x9).bind fun r10 =>
      if r10 = 0 then
        fX7_readBeside_70 n Sh a0 a1 M4
      else
        tF M4 a0 0 fun b11 =>
        aI Sh M4 b11 0 3403 fun x12 =>
        (fX7_beside n Sh M4 a0 x12 a1).bind fun r13 =>
        fX7_readBeside_71 n Sh a0 a1 M4 r13
  else
    some (0, M4)
noncomputable def fX7_readBeside (n : Nat) (Sh : Sp) (M : Mm) (a0 : Nat) (a1 : Int32) : Option (Int32 × Mm) :=
  (fX7_in n Sh M a1 0 3).bind fun r14 =>
  if r14 = 0 then
    fX7_readBeside_15 n Sh a0 a1 M a0 1
  else
    fX7_readBeside_15 n Sh a0 a1 M a0 0
set_option maxRecDepth 100000 in
set_option maxHeartbeats 4000000 in
theorem kX7_readBeside {l : Launch} {G : Gt} {n : Nat} {Sh : Sp} {M : Mm} {a0 : Nat} {a1 : Int32} (hT : Sh a0 = some (.inl 7)) {r : (Int32 × Mm)} (h : fX7_readBeside n Sh M a0 a1 = some r) : Ct l yX7_readBeside cX7_readBeside 4 (some .int) rmX7_readBeside G Sh M [.ref a0, .int a1] (some (.int r.1)) r.2 := by
  refine Ct.of (by decide) (Nat.le_of_ble_eq_true rfl) ?_
  intro p e s m args below meth c ls C hK hX hP hS hb hlk hr hl
  replace hl : lv_has ls 4 [(0, .ref a0), (1, .int a1)] := hl
  have J71 : ∀ (M : Mm) (t0 : Int32) (H : Heap) (locs : List Loc) (ls : Array Slot), HM G Sh M H → SS G s s.heap.size H locs → lv_has ls 4 [(0, .ref a0), (1, .int a1)] → fX7_readBeside_71 n Sh a0 a1 M t0 = some r → W p l e rmX7_readBeside s m args below meth c H locs 0 0 (MQ below (QG G Sh r.2 (some (.int r.1))) args s rmX7_readBeside.cells rmX7_readBeside.slots (AA G)) (F0 m 71 ls [.int t0]) := by
    intro M t0 H locs ls hP hS hl h
    unfold fX7_readBeside_71 at h
    refine lv_istore_n (lv' := [(2, .int t0), (0, .ref a0), (1, .int a1)]) C.1 C.2.1 dX7_readBeside_71 rfl hl (by decide) rfl (fun ls hl => ?_)
    refine lv_iload_n C.1 C.2.1 dX7_readBeside_72 rfl (lv_at hl 0 rfl) ?_
    refine lv_iconst (v := (-1)) C.1 C.2.1 dX7_readBeside_73 (by decide) ?_
    refine b_ine (tgt := 84) C dX7_readBeside_74 (by decide) h (fun h => ?_) (fun h => ?_)
    · refine lv_aload_n C.1 C.2.1 dX7_readBeside_77 rfl (lv_at hl 1 rfl) ?_
      refine lv_iconst (v := 2) C.1 C.2.1 dX7_readBeside_78 (by decide) ?_
      refine r_qI C hK hP hS hT cl_7 (k := 5) (by decide) wd_1149 rfl rfl (tyX7_ok 5 (by decide)) dX7_readBeside_79 h (fun M1 H locs h hP hS => ?_)
      refine lv_iconst (v := 0) C.1 C.2.1 dX7_readBeside_82 (by decide) ?_
      have e := Option.some.inj h
      exact q_i C hlk hP hS hr (by rw [← e]) (by rw [← e]) dX7_readBeside_83
    · refine lv_aload_n C.1 C.2.1 dX7_readBeside_84 rfl (lv_at hl 1 rfl) ?_
      obtain ⟨r2, hc, h⟩ := bS h
      refine r_V0 C hK hX hb hP hS hl.1 (kX7_keep (hT) hc) hT cl_7 wd_1209 mo_X7_keep wd_1211 wd_27 ⟨Nat.le_of_ble_eq_true rfl, Nat.le_of_ble_eq_true rfl⟩ ⟨Nat.le_of_ble_eq_true rfl, Nat.le_of_ble_eq_true rfl⟩ rfl (rest := []) rfl (Nat.le_of_ble_eq_true rfl) dX7_readBeside_85 (fun H locs hP hS => ?_)
      refine lv_aload_n C.1 C.2.1 dX7_readBeside_88 rfl (lv_at hl 1 rfl) ?_
      refine lv_iload_n C.1 C.2.1 dX7_readBeside_89 rfl (lv_at hl 0 rfl) ?_
      obtain ⟨r3, hc, h⟩ := bS h
      refine r_V1 C hK hX hb hP hS hl.1 (kX7_reads (hT) hc) hT cl_7 wd_1510 mo_X7_reads wd_1512 wd_69 ⟨Nat.le_of_ble_eq_true rfl, Nat.le_of_ble_eq_true rfl⟩ ⟨Nat.le_of_ble_eq_true rfl, Nat.le_of_ble_eq_true rfl⟩ rfl (rest := []) rfl (Nat.le_of_ble_eq_true rfl) dX7_readBeside_90 (fun H locs hP hS => ?_)
      refine lv_istore_n (lv' := [(3, .int r3.1), (2, .int t0), (0, .ref a0), (1, .int a1)]) C.1 C.2.1 dX7_readBeside_93 rfl hl (by decide) rfl (fun ls hl => ?_)
      refine lv_iload_n C.1 C.2.1 dX7_readBeside_94 rfl (lv_at hl 1 rfl) ?_
      have e := Option.some.inj h
      exact q_i C hlk hP hS hr (by rw [← e]) (by rw [← e]) dX7_readBeside_95
  have J70 : ∀ (M : Mm) (H : Heap) (locs : List Loc) (ls : Array Slot), HM G Sh M H → SS G s s.heap.size H locs → lv_has ls 4 [(0, .ref a0), (1, .int a1)] → fX7_readBeside_70 n Sh a0 a1 M = some r → W p l e rmX7_readBeside s m args below meth c H locs 0 0 (MQ below (QG G Sh r.2 (some (.int r.1))) args s rmX7_readBeside.cells rmX7_readBeside.slots (AA G)) (F0 m 70 ls []) := by
    intro M H locs ls hP hS hl h
    unfold fX7_readBeside_70 at h
    refine lv_iconst (v := (-1)) C.1 C.2.1 dX7_readBeside_70 (by decide) ?_
    exact J71 (M) ((-1)) _ _ _ hP hS (lv_sub hl [0, 1] rfl) h
  have J15 : ∀ (M : Mm) (t0 : Nat) (t1 : Int32) (H : Heap) (locs : List Loc) (ls : Array Slot), HM G Sh M H → SS G s s.heap.size H locs → lv_has ls 4 [(0, .ref a0), (1, .int a1)] → fX7_readBeside_15 n Sh a0 a1 M t0 t1 = some r → W p l e rmX7_readBeside s m args below meth c H locs 0 0 (MQ below (QG G Sh r.2 (some (.int r.1))) args s rmX7_readBeside.cells rmX7_readBeside.slots (AA G)) (F0 m 15 ls [.int t1, .ref t0]) := by
    intro M t0 t1 H locs ls hP hS hl h
    unfold fX7_readBeside_15 at h
    refine r_pI C hK hP hS cl_7 (k := 5) (by decide) wd_1149 rfl rfl (tyX7_ok 5 (by decide)) dX7_readBeside_15 h (fun M4 H locs h hP hS => ?_)
    refine lv_aload_n C.1 C.2.1 dX7_readBeside_18 rfl (lv_at hl 0 rfl) ?_
    refine r_tI C hK hP hT cl_7 (k := 5) (by decide) wd_1149 rfl dX7_readBeside_19 h (fun x5 h => ?_)
    refine b_eq (tgt := 27) C dX7_readBeside_22 (by decide) h (fun h => ?_) (fun h => ?_)
    · refine lv_aload_n C.1 C.2.1 dX7_readBeside_27 rfl (lv_at hl 0 rfl) ?_
      refine r_tF C hK hP hT cl_7 (k := 0) (by decide) wd_1144 rfl dX7_readBeside_28 h (fun b6 h => ?_)
      refine lv_sipush (v := 3403) C.1 C.2.1 dX7_readBeside_31 (by decide) ?_
      refine r_aI C hK hP dX7_readBeside_34 h (fun x7 h => ?_)
      refine lv_iconst (v := (-1)) C.1 C.2.1 dX7_readBeside_35 (by decide) ?_
      refine b_ieq (tgt := 70) C dX7_readBeside_36 (by decide) h (fun h => ?_) (fun h => ?_)
      · exact J70 (M4) _ _ _ hP hS (lv_sub hl [0, 1] rfl) h
      · refine lv_aload_n C.1 C.2.1 dX7_readBeside_39 rfl (lv_at hl 0 rfl) ?_
        refine lv_aload_n C.1 C.2.1 dX7_readBeside_40 rfl (lv_at hl 0 rfl) ?_
        refine r_tF C hK hP hT cl_7 (k := 0) (by decide) wd_1144 rfl dX7_readBeside_41 h (fun b8 h => ?_)
        refine lv_sipush (v := 3403) C.1 C.2.1 dX7_readBeside_44 (by decide) ?_
        refine r_aI C hK hP dX7_readBeside_47 h (fun x9 h => ?_)
        obtain ⟨r10, hc, h⟩ := bS h
        refine r_V1 C hK hX hb hP hS hl.1 (kX7_isCell (hT) hc) hT cl_7 wd_1474 mo_X7_isCell wd_1476 wd_63 ⟨Nat.le_of_ble_eq_true rfl, Nat.le_of_ble_eq_true rfl⟩ ⟨Nat.le_of_ble_eq_true rfl, Nat.le_of_ble_eq_true rfl⟩ rfl (rest := []) rfl (Nat.le_of_ble_eq_true rfl) dX7_readBeside_48 (fun H locs hP hS => ?_)
        refine b_eq (tgt := 70) C dX7_readBeside_51 (by decide) h (fun h => ?_) (fun h => ?_)
        · exact J70 (M4) _ _ _ hP hS (lv_sub hl [0, 1] rfl) h
        · refine lv_aload_n C.1 C.2.1 dX7_readBeside_54 rfl (lv_at hl 0 rfl) ?_
          refine lv_aload_n C.1 C.2.1 dX7_readBeside_55 rfl (lv_at hl 0 rfl) ?_
          refine r_tF C hK hP hT cl_7 (k := 0) (by decide) wd_1144 rfl dX7_readBeside_56 h (fun b11 h => ?_)
          refine lv_sipush (v := 3403) C.1 C.2.1 dX7_readBeside_59 (by decide) ?_
          refine r_aI C hK hP dX7_readBeside_62 h (fun x12 h => ?_)
          refine lv_iload_n C.1 C.2.1 dX7_readBeside_63 rfl (lv_at hl 1 rfl) ?_
          obtain ⟨r13, hc, h⟩ := bS h
          refine r_V1 C hK hX hb hP hS hl.1 (kX7_beside (hT) hc) hT cl_7 wd_1522 mo_X7_beside wd_1524 wd_71 ⟨Nat.le_of_ble_eq_true rfl, Nat.le_of_ble_eq_true rfl⟩ ⟨Nat.le_of_ble_eq_true rfl, Nat.le_of_ble_eq_true rfl⟩ rfl (rest := []) rfl (Nat.le_of_ble_eq_true rfl) dX7_readBeside_64 (fun H locs hP hS => ?_)
          refine lv_goto (tgt := 71) C.1 C.2.1 dX7_readBeside_67 (by decide) ?_
          exact J71 (M4) (r13) _ _ _ hP hS (lv_sub hl [0, 1] rfl) h
    · refine lv_iconst (v := 0) C.1 C.2.1 dX7_readBeside_25 (by decide) ?_
      have e := Option.some.inj h
      exact q_i C hlk hP hS hr (by rw [← e]) (by rw [← e]) dX7_readBeside_26
  unfold fX7_readBeside at h
  refine lv_aload_n C.1 C.2.1 dX7_readBeside_0 rfl (lv_at hl 0 rfl) ?_
  refine lv_iload_n C.1 C.2.1 dX7_readBeside_1 rfl (lv_at hl 1 rfl) ?_
  refine lv_iconst (v := 0) C.1 C.2.1 dX7_readBeside_2 (by decide) ?_
  refine lv_iconst (v := 3) C.1 C.2.1 dX7_readBeside_3 (by decide) ?_
  obtain ⟨r14, hc, h⟩ := bS h
  refine r_S1 C hK hX hb hP hS hl.1 (kX7_in hc) wd_1194 mo_X7_in wd_1195 ⟨Nat.le_of_ble_eq_true rfl, Nat.le_of_ble_eq_true rfl⟩ ⟨Nat.le_of_ble_eq_true rfl, Nat.le_of_ble_eq_true rfl⟩ rfl (rest := [.ref a0]) rfl (Nat.le_of_ble_eq_true rfl) dX7_readBeside_4 (fun H locs hP hS => ?_)
  refine b_eq (tgt := 14) C dX7_readBeside_7 (by decide) h (fun h => ?_) (fun h => ?_)
  · refine lv_iconst (v := 1) C.1 C.2.1 dX7_readBeside_14 (by decide) ?_
    exact J15 (M) (a0) (1) _ _ _ hP hS (lv_sub hl [0, 1] rfl) h
  · refine lv_iconst (v := 0) C.1 C.2.1 dX7_readBeside_10 (by decide) ?_
    refine lv_goto (tgt := 15) C.1 C.2.1 dX7_readBeside_11 (by decide) ?_
    exact J15 (M) (a0) (0) _ _ _ hP hS (lv_sub hl [0, 1] rfl) h
