theorem dX4_returnOf_0 : decode cX4_returnOf 0 = .ok (.iload_n 1, 1) := by decide +kernel
theorem dX4_returnOf_1 : decode cX4_returnOf 1 = .ok (.ifCond .lt 18, 3) := by decide +kernel
theorem dX4_returnOf_4 : decode cX4_returnOf 4 = .ok (.iload_n 1, 1) := by decide +kernel
theorem dX4_returnOf_5 : decode cX4_returnOf 5 = .ok (.bipush 24, 2) := by decide +kernel
theorem dX4_returnOf_7 : decode cX4_returnOf 7 = .ok (.if_icmp .ge 12, 3) := by decide +kernel
theorem dX4_returnOf_10 : decode cX4_returnOf 10 = .ok (.aload_n 0, 1) := by decide +kernel
theorem dX4_returnOf_11 : decode cX4_returnOf 11 = .ok (.getfield 46, 3) := by decide +kernel
theorem dX4_returnOf_14 : decode cX4_returnOf 14 = .ok (.iload_n 1, 1) := by decide +kernel
theorem dX4_returnOf_15 : decode cX4_returnOf 15 = .ok (.iaload, 1) := by decide +kernel
theorem dX4_returnOf_16 : decode cX4_returnOf 16 = .ok (.goto 4, 3) := by decide +kernel
theorem dX4_returnOf_19 : decode cX4_returnOf 19 = .ok (.iconst (-1), 1) := by decide +kernel
theorem dX4_returnOf_20 : decode cX4_returnOf 20 = .ok (.ireturn, 1) := by decide +kernel
abbrev rmX4_returnOf : Room := { frames := 1, cells := 0, slots := 0, locals := 40 }
noncomputable def fX4_returnOf (n : Nat) (Sh : Sp) (M : Mm) (a0 : Nat) (a1 : Int32) : Option Int32 :=
  if a1 < 0 then
    some (-1)
  else
    if a1 < 24 then
      tF M a0 10 fun b1 =>
      aI Sh M b1 0 a1 fun x2 =>
      some x2
    else
      some (-1)
set_option maxRecDepth 100000 in
set_option maxHeartbeats 4000000 in
theorem kX4_returnOf {l : Launch} {G : Gt} {n : Nat} {Sh : Sp} {M : Mm} {a0 : Nat} {a1 : Int32} (hT : Sh a0 = some (.inl 4)) {r : Int32} (h : fX4_returnOf n Sh M a0 a1 = some r) : Ct l yX4_returnOf cX4_returnOf 2 (some .int) rmX4_returnOf G Sh M [.ref a0, .int a1] (some (.int r)) M := by
  refine Ct.of (by decide) (Nat.le_of_ble_eq_true rfl) ?_
  intro p e s m args below meth c ls C hK hX hP hS hb hlk hr hl
  replace hl : lv_has ls 2 [(0, .ref a0), (1, .int a1)] := hl
  unfold fX4_returnOf at h
  refine lv_iload_n C.1 C.2.1 dX4_returnOf_0 rfl (lv_at hl 1 rfl) ?_
  refine b_lt (tgt := 19) C dX4_returnOf_1 (by decide) h (fun h => ?_) (fun h => ?_)
  · refine lv_iconst (v := (-1)) C.1 C.2.1 dX4_returnOf_19 (by decide) ?_
    have e := Option.some.inj h
    exact q_i C hlk hP hS hr (by rw [← e]) rfl dX4_returnOf_20
  · refine lv_iload_n C.1 C.2.1 dX4_returnOf_4 rfl (lv_at hl 1 rfl) ?_
    refine lv_bipush (v := 24) C.1 C.2.1 dX4_returnOf_5 (by decide) ?_
    refine b_ige (tgt := 19) C dX4_returnOf_7 (by decide) h (fun h => ?_) (fun h => ?_)
    · refine lv_aload_n C.1 C.2.1 dX4_returnOf_10 rfl (lv_at hl 0 rfl) ?_
      refine r_tF C hK hP hT cl_4 (k := 10) (by decide) wd_154 rfl dX4_returnOf_11 h (fun b1 h => ?_)
      refine lv_iload_n C.1 C.2.1 dX4_returnOf_14 rfl (lv_at hl 1 rfl) ?_
      refine r_aI C hK hP dX4_returnOf_15 h (fun x2 h => ?_)
      refine lv_goto (tgt := 20) C.1 C.2.1 dX4_returnOf_16 (by decide) ?_
      have e := Option.some.inj h
      exact q_i C hlk hP hS hr (by rw [← e]) rfl dX4_returnOf_20
    · refine lv_iconst (v := (-1)) C.1 C.2.1 dX4_returnOf_19 (by decide) ?_
      have e := Option.some.inj h
      exact q_i C hlk hP hS hr (by rw [← e]) rfl dX4_returnOf_20
theorem dX4_isOut_0 : decode cX4_isOut 0 = .ok (.aload_n 0, 1) := by decide +kernel
theorem dX4_isOut_1 : decode cX4_isOut 1 = .ok (.iload_n 1, 1) := by decide +kernel
theorem dX4_isOut_2 : decode cX4_isOut 2 = .ok (.iconst 0, 1) := by decide +kernel
theorem dX4_isOut_3 : decode cX4_isOut 3 = .ok (.invokevirtual 105, 3) := by decide +kernel
theorem dX4_isOut_6 : decode cX4_isOut 6 = .ok (.iconst 1, 1) := by decide +kernel
theorem dX4_isOut_7 : decode cX4_isOut 7 = .ok (.if_icmp .eq 21, 3) := by decide +kernel
theorem dX4_isOut_10 : decode cX4_isOut 10 = .ok (.aload_n 0, 1) := by decide +kernel
theorem dX4_isOut_11 : decode cX4_isOut 11 = .ok (.iload_n 1, 1) := by decide +kernel
theorem dX4_isOut_12 : decode cX4_isOut 12 = .ok (.invokevirtual 108, 3) := by decide +kernel
theorem dX4_isOut_15 : decode cX4_isOut 15 = .ok (.bipush 6, 2) := by decide +kernel
theorem dX4_isOut_17 : decode cX4_isOut 17 = .ok (.if_icmp .ne 15, 3) := by decide +kernel
theorem dX4_isOut_20 : decode cX4_isOut 20 = .ok (.aload_n 0, 1) := by decide +kernel
theorem dX4_isOut_21 : decode cX4_isOut 21 = .ok (.iload_n 1, 1) := by decide +kernel
theorem dX4_isOut_22 : decode cX4_isOut 22 = .ok (.invokevirtual 111, 3) := by decide +kernel
theorem dX4_isOut_25 : decode cX4_isOut 25 = .ok (.ifCond .ne 7, 3) := by decide +kernel
theorem dX4_isOut_28 : decode cX4_isOut 28 = .ok (.iconst 1, 1) := by decide +kernel
theorem dX4_isOut_29 : decode cX4_isOut 29 = .ok (.goto 4, 3) := by decide +kernel
theorem dX4_isOut_32 : decode cX4_isOut 32 = .ok (.iconst 0, 1) := by decide +kernel
theorem dX4_isOut_33 : decode cX4_isOut 33 = .ok (.ireturn, 1) := by decide +kernel
abbrev rmX4_isOut : Room := { frames := 2, cells := 0, slots := 0, locals := 62 }
noncomputable def fX4_isOut_28 (n : Nat) (Sh : Sp) (M : Mm) (a0 : Nat) (a1 : Int32) : Option Int32 :=
  some 1
noncomputable def fX4_isOut (n : Nat) (Sh : Sp) (M : Mm) (a0 : Nat) (a1 : Int32) : Option Int32 :=
  (fX4_setting n Sh M a0 a1 0).bind fun r1 =>
  if r1 = 1 then
    fX4_isOut_28 n Sh M a0 a1
  else
    (fX4_roleOf n Sh M a0 a1).bind fun r2 =>
    if r2 = 6 then
      (fX4_isOpen n Sh M a0 a1).bind fun r3 =>
      if r3 = 0 then
        fX4_isOut_28 n Sh M a0 a1
      else
        some 0
    else
      some 0
set_option maxRecDepth 100000 in
set_option maxHeartbeats 4000000 in
theorem kX4_isOut {l : Launch} {G : Gt} {n : Nat} {Sh : Sp} {M : Mm} {a0 : Nat} {a1 : Int32} (hT : Sh a0 = some (.inl 4)) {r : Int32} (h : fX4_isOut n Sh M a0 a1 = some r) : Ct l yX4_isOut cX4_isOut 2 (some .boolean) rmX4_isOut G Sh M [.ref a0, .int a1] (some (.int r)) M := by
  refine Ct.of (by decide) (Nat.le_of_ble_eq_true rfl) ?_
  intro p e s m args below meth c ls C hK hX hP hS hb hlk hr hl
  replace hl : lv_has ls 2 [(0, .ref a0), (1, .int a1)] := hl
  have J28 : ∀ (H : Heap) (locs : List Loc) (ls : Array Slot), HM G Sh M H → SS G s s.heap.size H locs → lv_has ls 2 [(0, .ref a0), (1, .int a1)] → fX4_isOut_28 n Sh M a0 a1 = some r → W p l e rmX4_isOut s m args below meth c H locs 0 0 (MQ below (QG G Sh M (some (.int r))) args s rmX4_isOut.cells rmX4_isOut.slots (AA G)) (F0 m 28 ls []) := by
    intro  H locs ls hP hS hl h
    unfold fX4_isOut_28 at h
    refine lv_iconst (v := 1) C.1 C.2.1 dX4_isOut_28 (by decide) ?_
    refine lv_goto (tgt := 33) C.1 C.2.1 dX4_isOut_29 (by decide) ?_
    have e := Option.some.inj h
    exact q_z C hlk hP hS hr (by decide) (by rw [← e]) rfl dX4_isOut_33
  unfold fX4_isOut at h
  refine lv_aload_n C.1 C.2.1 dX4_isOut_0 rfl (lv_at hl 0 rfl) ?_
  refine lv_iload_n C.1 C.2.1 dX4_isOut_1 rfl (lv_at hl 1 rfl) ?_
  refine lv_iconst (v := 0) C.1 C.2.1 dX4_isOut_2 (by decide) ?_
  obtain ⟨r1, hc, h⟩ := bS h
  refine r_V1 C hK hX hb hP hS hl.1 (kX4_setting (hT) hc) hT cl_4 wd_354 mo_X4_setting wd_355 wd_356 ⟨Nat.le_of_ble_eq_true rfl, Nat.le_of_ble_eq_true rfl⟩ ⟨Nat.le_of_ble_eq_true rfl, Nat.le_of_ble_eq_true rfl⟩ rfl (rest := []) rfl (Nat.le_of_ble_eq_true rfl) dX4_isOut_3 (fun H locs hP hS => ?_)
  refine lv_iconst (v := 1) C.1 C.2.1 dX4_isOut_6 (by decide) ?_
  refine b_ieq (tgt := 28) C dX4_isOut_7 (by decide) h (fun h => ?_) (fun h => ?_)
  · exact J28  _ _ _ hP hS (lv_sub hl [0, 1] rfl) h
  · refine lv_aload_n C.1 C.2.1 dX4_isOut_10 rfl (lv_at hl 0 rfl) ?_
    refine lv_iload_n C.1 C.2.1 dX4_isOut_11 rfl (lv_at hl 1 rfl) ?_
    obtain ⟨r2, hc, h⟩ := bS h
    refine r_V1 C hK hX hb hP hS hl.1 (kX4_roleOf (hT) hc) hT cl_4 wd_358 mo_X4_roleOf wd_359 wd_360 ⟨Nat.le_of_ble_eq_true rfl, Nat.le_of_ble_eq_true rfl⟩ ⟨Nat.le_of_ble_eq_true rfl, Nat.le_of_ble_eq_true rfl⟩ rfl (rest := []) rfl (Nat.le_of_ble_eq_true rfl) dX4_isOut_12 (fun H locs hP hS => ?_)
    refine lv_bipush (v := 6) C.1 C.2.1 dX4_isOut_15 (by decide) ?_
    refine b_ine (tgt := 32) C dX4_isOut_17 (by decide) h (fun h => ?_) (fun h => ?_)
    · refine lv_aload_n C.1 C.2.1 dX4_isOut_20 rfl (lv_at hl 0 rfl) ?_
      refine lv_iload_n C.1 C.2.1 dX4_isOut_21 rfl (lv_at hl 1 rfl) ?_
      obtain ⟨r3, hc, h⟩ := bS h
      refine r_V1 C hK hX hb hP hS hl.1 (kX4_isOpen (hT) hc) hT cl_4 wd_342 mo_X4_isOpen wd_343 wd_344 ⟨Nat.le_of_ble_eq_true rfl, Nat.le_of_ble_eq_true rfl⟩ ⟨Nat.le_of_ble_eq_true rfl, Nat.le_of_ble_eq_true rfl⟩ rfl (rest := []) rfl (Nat.le_of_ble_eq_true rfl) dX4_isOut_22 (fun H locs hP hS => ?_)
      refine b_ne (tgt := 32) C dX4_isOut_25 (by decide) h (fun h => ?_) (fun h => ?_)
      · exact J28  _ _ _ hP hS (lv_sub hl [0, 1] rfl) h
      · refine lv_iconst (v := 0) C.1 C.2.1 dX4_isOut_32 (by decide) ?_
        have e := Option.some.inj h
        exact q_z C hlk hP hS hr (by decide) (by rw [← e]) rfl dX4_isOut_33
    · refine lv_iconst (v := 0) C.1 C.2.1 dX4_isOut_32 (by decide) ?_
      have e := Option.some.inj h
      exact q_z C hlk hP hS hr (by decide) (by rw [← e]) rfl dX4_isOut_33
theorem dX4_isShown_0 : decode cX4_isShown 0 = .ok (.iload_n 1, 1) := by decide +kernel
theorem dX4_isShown_1 : decode cX4_isShown 1 = .ok (.istore_n 2, 1) := by decide +kernel
theorem dX4_isShown_2 : decode cX4_isShown 2 = .ok (.iconst 0, 1) := by decide +kernel
theorem dX4_isShown_3 : decode cX4_isShown 3 = .ok (.istore_n 3, 1) := by decide +kernel
theorem dX4_isShown_4 : decode cX4_isShown 4 = .ok (.iload_n 3, 1) := by decide +kernel
theorem dX4_isShown_5 : decode cX4_isShown 5 = .ok (.bipush 24, 2) := by decide +kernel
theorem dX4_isShown_7 : decode cX4_isShown 7 = .ok (.if_icmp .ge 30, 3) := by decide +kernel
theorem dX4_isShown_10 : decode cX4_isShown 10 = .ok (.iload_n 2, 1) := by decide +kernel
theorem dX4_isShown_11 : decode cX4_isShown 11 = .ok (.iconst (-1), 1) := by decide +kernel
theorem dX4_isShown_12 : decode cX4_isShown 12 = .ok (.if_icmp .eq 25, 3) := by decide +kernel
theorem dX4_isShown_15 : decode cX4_isShown 15 = .ok (.aload_n 0, 1) := by decide +kernel
theorem dX4_isShown_16 : decode cX4_isShown 16 = .ok (.iload_n 2, 1) := by decide +kernel
theorem dX4_isShown_17 : decode cX4_isShown 17 = .ok (.invokevirtual 114, 3) := by decide +kernel
theorem dX4_isShown_20 : decode cX4_isShown 20 = .ok (.ifCond .eq 5, 3) := by decide +kernel
theorem dX4_isShown_23 : decode cX4_isShown 23 = .ok (.iconst 0, 1) := by decide +kernel
theorem dX4_isShown_24 : decode cX4_isShown 24 = .ok (.ireturn, 1) := by decide +kernel
theorem dX4_isShown_25 : decode cX4_isShown 25 = .ok (.aload_n 0, 1) := by decide +kernel
theorem dX4_isShown_26 : decode cX4_isShown 26 = .ok (.iload_n 2, 1) := by decide +kernel
theorem dX4_isShown_27 : decode cX4_isShown 27 = .ok (.invokevirtual 77, 3) := by decide +kernel
theorem dX4_isShown_30 : decode cX4_isShown 30 = .ok (.istore_n 2, 1) := by decide +kernel
theorem dX4_isShown_31 : decode cX4_isShown 31 = .ok (.iinc 3 1, 3) := by decide +kernel
theorem dX4_isShown_34 : decode cX4_isShown 34 = .ok (.goto (-30), 3) := by decide +kernel
theorem dX4_isShown_37 : decode cX4_isShown 37 = .ok (.aload_n 0, 1) := by decide +kernel
theorem dX4_isShown_38 : decode cX4_isShown 38 = .ok (.iload_n 1, 1) := by decide +kernel
theorem dX4_isShown_39 : decode cX4_isShown 39 = .ok (.invokevirtual 73, 3) := by decide +kernel
theorem dX4_isShown_42 : decode cX4_isShown 42 = .ok (.ireturn, 1) := by decide +kernel
abbrev rmX4_isShown : Room := { frames := 3, cells := 0, slots := 0, locals := 83 }
noncomputable def fX4_isShown_37 (n : Nat) (Sh : Sp) (M : Mm) (a0 : Nat) (a1 : Int32) : Option Int32 :=
  (fX4_has n Sh M a0 a1).bind fun r1 =>
  chk (r1 = 0 ∨ r1 = 1) (some r1)
noncomputable def fX4_isShown_4b (n : Nat) (Sh : Sp) (M : Mm) (a0 : Nat) (a1 : Int32) (v2 : Int32) (v3 : Int32) : Option ((Int32 × Int32) ⊕ Int32) :=
  if v3 < 24 then
    if v2 = (-1) then
      (fX4_isShown_37 n Sh M a0 a1).map Sum.inr
    else
      (fX4_isOut n Sh M a0 v2).bind fun r2 =>
      if r2 = 0 then
        (fX4_parentOf n Sh M a0 v2).bind fun r3 =>
        some (Sum.inl (r3, (v3 + 1)))
      else
        some (Sum.inr 0)
  else
    (fX4_isShown_37 n Sh M a0 a1).map Sum.inr
noncomputable def fX4_isShown_4 (n : Nat) (Sh : Sp) (M : Mm) (a0 : Nat) (a1 : Int32) (v2 : Int32) (v3 : Int32) : Option Int32 :=
  iter n (fun s => fX4_isShown_4b n Sh M a0 a1 s.1 s.2) (v2, v3)
noncomputable def fX4_isShown (n : Nat) (Sh : Sp) (M : Mm) (a0 : Nat) (a1 : Int32) : Option Int32 :=
  fX4_isShown_4 n Sh M a0 a1 a1 0
set_option maxRecDepth 100000 in
set_option maxHeartbeats 4000000 in
theorem kX4_isShown {l : Launch} {G : Gt} {n : Nat} {Sh : Sp} {M : Mm} {a0 : Nat} {a1 : Int32} (hT : Sh a0 = some (.inl 4)) {r : Int32} (h : fX4_isShown n Sh M a0 a1 = some r) : Ct l yX4_isShown cX4_isShown 4 (some .boolean) rmX4_isShown G Sh M [.ref a0, .int a1] (some (.int r)) M := by
  refine Ct.of (by decide) (Nat.le_of_ble_eq_true rfl) ?_
  intro p e s m args below meth c ls C hK hX hP hS hb hlk hr hl
  replace hl : lv_has ls 4 [(0, .ref a0), (1, .int a1)] := hl
  have J37 : ∀ (H : Heap) (locs : List Loc) (ls : Array Slot), HM G Sh M H → SS G s s.heap.size H locs → lv_has ls 4 [(0, .ref a0), (1, .int a1)] → fX4_isShown_37 n Sh M a0 a1 = some r → W p l e rmX4_isShown s m args below meth c H locs 0 0 (MQ below (QG G Sh M (some (.int r))) args s rmX4_isShown.cells rmX4_isShown.slots (AA G)) (F0 m 37 ls []) := by
    intro  H locs ls hP hS hl h
    unfold fX4_isShown_37 at h
    refine lv_aload_n C.1 C.2.1 dX4_isShown_37 rfl (lv_at hl 0 rfl) ?_
    refine lv_iload_n C.1 C.2.1 dX4_isShown_38 rfl (lv_at hl 1 rfl) ?_
    obtain ⟨r1, hc, h⟩ := bS h
    refine r_V1 C hK hX hb hP hS hl.1 (kX4_has (hT) hc) hT cl_4 wd_297 mo_X4_has wd_298 wd_299 ⟨Nat.le_of_ble_eq_true rfl, Nat.le_of_ble_eq_true rfl⟩ ⟨Nat.le_of_ble_eq_true rfl, Nat.le_of_ble_eq_true rfl⟩ rfl (rest := []) rfl (Nat.le_of_ble_eq_true rfl) dX4_isShown_39 (fun H locs hP hS => ?_)
    obtain ⟨hzz, h⟩ := chk_some h
    have e := Option.some.inj h
    exact q_z C hlk hP hS hr hzz (by rw [← e]) rfl dX4_isShown_42
  have J4 : ∀ (k : Nat) (v2 : Int32) (v3 : Int32) (H : Heap) (locs : List Loc) (ls : Array Slot), HM G Sh M H → SS G s s.heap.size H locs → lv_has ls 4 [(0, .ref a0), (1, .int a1), (2, .int v2), (3, .int v3)] → iter k (fun s => fX4_isShown_4b n Sh M a0 a1 s.1 s.2) (v2, v3) = some r → W p l e rmX4_isShown s m args below meth c H locs 0 0 (MQ below (QG G Sh M (some (.int r))) args s rmX4_isShown.cells rmX4_isShown.slots (AA G)) (F0 m 4 ls []) := by
    intro k
    induction k with
    | zero => intro v2 v3 H locs ls hP hS hl h; exact (iter_0 h).elim
    | succ k ih1 =>
      intro v2 v3 H locs ls hP hS hl h
      obtain ⟨z1, h, hz1⟩ := iter_some h
      replace h : fX4_isShown_4b n Sh M a0 a1 v2 v3 = some z1 := h
      unfold fX4_isShown_4b at h
      refine lv_iload_n C.1 C.2.1 dX4_isShown_4 rfl (lv_at hl 3 rfl) ?_
      refine lv_bipush (v := 24) C.1 C.2.1 dX4_isShown_5 (by decide) ?_
      refine b_ige (tgt := 37) C dX4_isShown_7 (by decide) h (fun h => ?_) (fun h => ?_)
      · refine lv_iload_n C.1 C.2.1 dX4_isShown_10 rfl (lv_at hl 2 rfl) ?_
        refine lv_iconst (v := (-1)) C.1 C.2.1 dX4_isShown_11 (by decide) ?_
        refine b_ieq (tgt := 37) C dX4_isShown_12 (by decide) h (fun h => ?_) (fun h => ?_)
        · obtain ⟨w1, h, e⟩ := mS h
          rw [← e] at hz1
          replace e := itK_inr hz1
          rw [e] at h
          exact J37  _ _ _ hP hS (lv_sub hl [0, 1] rfl) h
        · refine lv_aload_n C.1 C.2.1 dX4_isShown_15 rfl (lv_at hl 0 rfl) ?_
          refine lv_iload_n C.1 C.2.1 dX4_isShown_16 rfl (lv_at hl 2 rfl) ?_
          obtain ⟨r2, hc, h⟩ := bS h
          refine r_V1 C hK hX hb hP hS hl.1 (kX4_isOut (hT) hc) hT cl_4 wd_350 mo_X4_isOut wd_351 wd_352 ⟨Nat.le_of_ble_eq_true rfl, Nat.le_of_ble_eq_true rfl⟩ ⟨Nat.le_of_ble_eq_true rfl, Nat.le_of_ble_eq_true rfl⟩ rfl (rest := []) rfl (Nat.le_of_ble_eq_true rfl) dX4_isShown_17 (fun H locs hP hS => ?_)
          refine b_eq (tgt := 25) C dX4_isShown_20 (by decide) h (fun h => ?_) (fun h => ?_)
          · refine lv_aload_n C.1 C.2.1 dX4_isShown_25 rfl (lv_at hl 0 rfl) ?_
            refine lv_iload_n C.1 C.2.1 dX4_isShown_26 rfl (lv_at hl 2 rfl) ?_
            obtain ⟨r3, hc, h⟩ := bS h
            refine r_V1 C hK hX hb hP hS hl.1 (kX4_parentOf (hT) hc) hT cl_4 wd_305 mo_X4_parentOf wd_306 wd_307 ⟨Nat.le_of_ble_eq_true rfl, Nat.le_of_ble_eq_true rfl⟩ ⟨Nat.le_of_ble_eq_true rfl, Nat.le_of_ble_eq_true rfl⟩ rfl (rest := []) rfl (Nat.le_of_ble_eq_true rfl) dX4_isShown_27 (fun H locs hP hS => ?_)
            refine lv_istore_n (lv' := [(2, .int r3), (0, .ref a0), (1, .int a1), (3, .int v3)]) C.1 C.2.1 dX4_isShown_30 rfl hl (by decide) rfl (fun ls hl => ?_)
            refine lv_iinc (v := (v3 + 1)) (lv' := [(3, .int (v3 + 1)), (2, .int r3), (0, .ref a0), (1, .int a1)]) C.1 C.2.1 dX4_isShown_31 hl (k := 3) rfl rfl (by decide) rfl (fun ls hl => ?_)
            refine lv_goto (tgt := 4) C.1 C.2.1 dX4_isShown_34 (by decide) ?_
            have e := Option.some.inj h
            rw [← e] at hz1
            exact ih1 (r3) ((v3 + 1)) _ _ _ hP hS (lv_sub hl [2, 3, 1, 0] rfl) (itK_inl hz1)
          · refine lv_iconst (v := 0) C.1 C.2.1 dX4_isShown_23 (by decide) ?_
            have e := Option.some.inj h
            rw [← e] at hz1
            replace e := itK_inr hz1
            exact q_z C hlk hP hS hr (by decide) (by rw [← e]) rfl dX4_isShown_24
      · obtain ⟨w1, h, e⟩ := mS h
        rw [← e] at hz1
        replace e := itK_inr hz1
        rw [e] at h
        exact J37  _ _ _ hP hS (lv_sub hl [0, 1] rfl) h
  unfold fX4_isShown at h
  refine lv_iload_n C.1 C.2.1 dX4_isShown_0 rfl (lv_at hl 1 rfl) ?_
  refine lv_istore_n (lv' := [(2, .int a1), (0, .ref a0), (1, .int a1)]) C.1 C.2.1 dX4_isShown_1 rfl hl (by decide) rfl (fun ls hl => ?_)
  refine lv_iconst (v := 0) C.1 C.2.1 dX4_isShown_2 (by decide) ?_
  refine lv_istore_n (lv' := [(3, .int 0), (2, .int a1), (0, .ref a0), (1, .int a1)]) C.1 C.2.1 dX4_isShown_3 rfl hl (by decide) rfl (fun ls hl => ?_)
  exact J4  n (a1) (0) _ _ _ hP hS (lv_sub hl [2, 3, 1, 0] rfl) h
theorem dX4_topDialog_0 : decode cX4_topDialog 0 = .ok (.iconst (-1), 1) := by decide +kernel
theorem dX4_topDialog_1 : decode cX4_topDialog 1 = .ok (.istore_n 1, 1) := by decide +kernel
theorem dX4_topDialog_2 : decode cX4_topDialog 2 = .ok (.iconst 0, 1) := by decide +kernel
theorem dX4_topDialog_3 : decode cX4_topDialog 3 = .ok (.istore_n 2, 1) := by decide +kernel
theorem dX4_topDialog_4 : decode cX4_topDialog 4 = .ok (.iload_n 2, 1) := by decide +kernel
theorem dX4_topDialog_5 : decode cX4_topDialog 5 = .ok (.bipush 24, 2) := by decide +kernel
theorem dX4_topDialog_7 : decode cX4_topDialog 7 = .ok (.if_icmp .ge 47, 3) := by decide +kernel
theorem dX4_topDialog_10 : decode cX4_topDialog 10 = .ok (.aload_n 0, 1) := by decide +kernel
theorem dX4_topDialog_11 : decode cX4_topDialog 11 = .ok (.iload_n 2, 1) := by decide +kernel
theorem dX4_topDialog_12 : decode cX4_topDialog 12 = .ok (.invokevirtual 111, 3) := by decide +kernel
theorem dX4_topDialog_15 : decode cX4_topDialog 15 = .ok (.ifCond .eq 33, 3) := by decide +kernel
theorem dX4_topDialog_18 : decode cX4_topDialog 18 = .ok (.aload_n 0, 1) := by decide +kernel
theorem dX4_topDialog_19 : decode cX4_topDialog 19 = .ok (.iload_n 2, 1) := by decide +kernel
theorem dX4_topDialog_20 : decode cX4_topDialog 20 = .ok (.invokevirtual 117, 3) := by decide +kernel
theorem dX4_topDialog_23 : decode cX4_topDialog 23 = .ok (.ifCond .eq 25, 3) := by decide +kernel
theorem dX4_topDialog_26 : decode cX4_topDialog 26 = .ok (.iload_n 1, 1) := by decide +kernel
theorem dX4_topDialog_27 : decode cX4_topDialog 27 = .ok (.iconst (-1), 1) := by decide +kernel
theorem dX4_topDialog_28 : decode cX4_topDialog 28 = .ok (.if_icmp .eq 18, 3) := by decide +kernel
theorem dX4_topDialog_31 : decode cX4_topDialog 31 = .ok (.aload_n 0, 1) := by decide +kernel
theorem dX4_topDialog_32 : decode cX4_topDialog 32 = .ok (.getfield 39, 3) := by decide +kernel
theorem dX4_topDialog_35 : decode cX4_topDialog 35 = .ok (.iload_n 2, 1) := by decide +kernel
theorem dX4_topDialog_36 : decode cX4_topDialog 36 = .ok (.iaload, 1) := by decide +kernel
theorem dX4_topDialog_37 : decode cX4_topDialog 37 = .ok (.aload_n 0, 1) := by decide +kernel
theorem dX4_topDialog_38 : decode cX4_topDialog 38 = .ok (.getfield 39, 3) := by decide +kernel
theorem dX4_topDialog_41 : decode cX4_topDialog 41 = .ok (.iload_n 1, 1) := by decide +kernel
theorem dX4_topDialog_42 : decode cX4_topDialog 42 = .ok (.iaload, 1) := by decide +kernel
theorem dX4_topDialog_43 : decode cX4_topDialog 43 = .ok (.if_icmp .le 5, 3) := by decide +kernel
theorem dX4_topDialog_46 : decode cX4_topDialog 46 = .ok (.iload_n 2, 1) := by decide +kernel
theorem dX4_topDialog_47 : decode cX4_topDialog 47 = .ok (.istore_n 1, 1) := by decide +kernel
theorem dX4_topDialog_48 : decode cX4_topDialog 48 = .ok (.iinc 2 1, 3) := by decide +kernel
theorem dX4_topDialog_51 : decode cX4_topDialog 51 = .ok (.goto (-47), 3) := by decide +kernel
theorem dX4_topDialog_54 : decode cX4_topDialog 54 = .ok (.iload_n 1, 1) := by decide +kernel
theorem dX4_topDialog_55 : decode cX4_topDialog 55 = .ok (.ireturn, 1) := by decide +kernel
abbrev rmX4_topDialog : Room := { frames := 4, cells := 0, slots := 0, locals := 106 }
noncomputable def fX4_topDialog_48 (n : Nat) (Sh : Sp) (M : Mm) (a0 : Nat) (v1 : Int32) (v2 : Int32) : Option ((Int32 × Int32) ⊕ Int32) :=
  some (Sum.inl (v1, (v2 + 1)))
noncomputable def fX4_topDialog_46 (n : Nat) (Sh : Sp) (M : Mm) (a0 : Nat) (v2 : Int32) : Option ((Int32 × Int32) ⊕ Int32) :=
  fX4_topDialog_48 n Sh M a0 v2 v2
noncomputable def fX4_topDialog_4b (n : Nat) (Sh : Sp) (M : Mm) (a0 : Nat) (v1 : Int32) (v2 : Int32) : Option ((Int32 × Int32) ⊕ Int32) :=
  if v2 < 24 then
    (fX4_isOpen n Sh M a0 v2).bind fun r1 =>
    if r1 = 0 then
      fX4_topDialog_48 n Sh M a0 v1 v2
    else
      (fX4_isShown n Sh M a0 v2).bind fun r2 =>
      if r2 = 0 then
        fX4_topDialog_48 n Sh M a0 v1 v2
      else
        if v1 = (-1) then
          fX4_topDialog_46 n Sh M a0 v2
        else
          tF M a0 8 fun b3 =>
          aI Sh M b3 0 v2 fun x4 =>
          tF M a0 8 fun b5 =>
          aI Sh M b5 0 v1 fun x6 =>
          if x4 ≤ x6 then
            fX4_topDialog_48 n Sh M a0 v1 v2
          else
            fX4_topDialog_46 n Sh M a0 v2
  else
    some (Sum.inr v1)
noncomputable def fX4_topDialog_4 (n : Nat) (Sh : Sp) (M : Mm) (a0 : Nat) (v1 : Int32) (v2 : Int32) : Option Int32 :=
  iter n (fun s => fX4_topDialog_4b n Sh M a0 s.1 s.2) (v1, v2)
noncomputable def fX4_topDialog (n : Nat) (Sh : Sp) (M : Mm) (a0 : Nat) : Option Int32 :=
  fX4_topDialog_4 n Sh M a0 (-1) 0
set_option maxRecDepth 100000 in
set_option maxHeartbeats 4000000 in
theorem kX4_topDialog {l : Launch} {G : Gt} {n : Nat} {Sh : Sp} {M : Mm} {a0 : Nat} (hT : Sh a0 = some (.inl 4)) {r : Int32} (h : fX4_topDialog n Sh M a0 = some r) : Ct l yX4_topDialog cX4_topDialog 3 (some .int) rmX4_topDialog G Sh M [.ref a0] (some (.int r)) M := by
  refine Ct.of (by decide) (Nat.le_of_ble_eq_true rfl) ?_
  intro p e s m args below meth c ls C hK hX hP hS hb hlk hr hl
  replace hl : lv_has ls 3 [(0, .ref a0)] := hl
  have J4 : ∀ (k : Nat) (v1 : Int32) (v2 : Int32) (H : Heap) (locs : List Loc) (ls : Array Slot), HM G Sh M H → SS G s s.heap.size H locs → lv_has ls 3 [(0, .ref a0), (1, .int v1), (2, .int v2)] → iter k (fun s => fX4_topDialog_4b n Sh M a0 s.1 s.2) (v1, v2) = some r → W p l e rmX4_topDialog s m args below meth c H locs 0 0 (MQ below (QG G Sh M (some (.int r))) args s rmX4_topDialog.cells rmX4_topDialog.slots (AA G)) (F0 m 4 ls []) := by
    intro k
    induction k with
    | zero => intro v1 v2 H locs ls hP hS hl h; exact (iter_0 h).elim
    | succ k ih1 =>
      intro v1 v2 H locs ls hP hS hl h
      obtain ⟨z1, h, hz1⟩ := iter_some h
      replace h : fX4_topDialog_4b n Sh M a0 v1 v2 = some z1 := h
      have J48 : ∀ (v1 : Int32) (v2 : Int32) (H : Heap) (locs : List Loc) (ls : Array Slot), HM G Sh M H → SS G s s.heap.size H locs → lv_has ls 3 [(0, .ref a0), (1, .int v1), (2, .int v2)] → fX4_topDialog_48 n Sh M a0 v1 v2 = some z1 → W p l e rmX4_topDialog s m args below meth c H locs 0 0 (MQ below (QG G Sh M (some (.int r))) args s rmX4_topDialog.cells rmX4_topDialog.slots (AA G)) (F0 m 48 ls []) := by
        intro v1 v2 H locs ls hP hS hl h
        unfold fX4_topDialog_48 at h
        refine lv_iinc (v := (v2 + 1)) (lv' := [(2, .int (v2 + 1)), (0, .ref a0), (1, .int v1)]) C.1 C.2.1 dX4_topDialog_48 hl (k := 2) rfl rfl (by decide) rfl (fun ls hl => ?_)
        refine lv_goto (tgt := 4) C.1 C.2.1 dX4_topDialog_51 (by decide) ?_
        have e := Option.some.inj h
        rw [← e] at hz1
        exact ih1 (v1) ((v2 + 1)) _ _ _ hP hS (lv_sub hl [1, 2, 0] rfl) (itK_inl hz1)
      have J46 : ∀ (v2 : Int32) (H : Heap) (locs : List Loc) (ls : Array Slot), HM G Sh M H → SS G s s.heap.size H locs → lv_has ls 3 [(0, .ref a0), (2, .int v2)] → fX4_topDialog_46 n Sh M a0 v2 = some z1 → W p l e rmX4_topDialog s m args below meth c H locs 0 0 (MQ below (QG G Sh M (some (.int r))) args s rmX4_topDialog.cells rmX4_topDialog.slots (AA G)) (F0 m 46 ls []) := by
        intro v2 H locs ls hP hS hl h
        unfold fX4_topDialog_46 at h
        refine lv_iload_n C.1 C.2.1 dX4_topDialog_46 rfl (lv_at hl 1 rfl) ?_
        refine lv_istore_n (lv' := [(1, .int v2), (0, .ref a0), (2, .int v2)]) C.1 C.2.1 dX4_topDialog_47 rfl hl (by decide) rfl (fun ls hl => ?_)
        exact J48 (v2) (v2) _ _ _ hP hS (lv_sub hl [1, 0, 2] rfl) h
      unfold fX4_topDialog_4b at h
      refine lv_iload_n C.1 C.2.1 dX4_topDialog_4 rfl (lv_at hl 2 rfl) ?_
      refine lv_bipush (v := 24) C.1 C.2.1 dX4_topDialog_5 (by decide) ?_
      refine b_ige (tgt := 54) C dX4_topDialog_7 (by decide) h (fun h => ?_) (fun h => ?_)
      · refine lv_aload_n C.1 C.2.1 dX4_topDialog_10 rfl (lv_at hl 0 rfl) ?_
        refine lv_iload_n C.1 C.2.1 dX4_topDialog_11 rfl (lv_at hl 2 rfl) ?_
        obtain ⟨r1, hc, h⟩ := bS h
        refine r_V1 C hK hX hb hP hS hl.1 (kX4_isOpen (hT) hc) hT cl_4 wd_342 mo_X4_isOpen wd_343 wd_344 ⟨Nat.le_of_ble_eq_true rfl, Nat.le_of_ble_eq_true rfl⟩ ⟨Nat.le_of_ble_eq_true rfl, Nat.le_of_ble_eq_true rfl⟩ rfl (rest := []) rfl (Nat.le_of_ble_eq_true rfl) dX4_topDialog_12 (fun H locs hP hS => ?_)
        refine b_eq (tgt := 48) C dX4_topDialog_15 (by decide) h (fun h => ?_) (fun h => ?_)
        · exact J48 (v1) (v2) _ _ _ hP hS (lv_sub hl [0, 1, 2] rfl) h
        · refine lv_aload_n C.1 C.2.1 dX4_topDialog_18 rfl (lv_at hl 0 rfl) ?_
          refine lv_iload_n C.1 C.2.1 dX4_topDialog_19 rfl (lv_at hl 2 rfl) ?_
          obtain ⟨r2, hc, h⟩ := bS h
          refine r_V1 C hK hX hb hP hS hl.1 (kX4_isShown (hT) hc) hT cl_4 wd_346 mo_X4_isShown wd_347 wd_348 ⟨Nat.le_of_ble_eq_true rfl, Nat.le_of_ble_eq_true rfl⟩ ⟨Nat.le_of_ble_eq_true rfl, Nat.le_of_ble_eq_true rfl⟩ rfl (rest := []) rfl (Nat.le_of_ble_eq_true rfl) dX4_topDialog_20 (fun H locs hP hS => ?_)
          refine b_eq (tgt := 48) C dX4_topDialog_23 (by decide) h (fun h => ?_) (fun h => ?_)
          · exact J48 (v1) (v2) _ _ _ hP hS (lv_sub hl [0, 1, 2] rfl) h
          · refine lv_iload_n C.1 C.2.1 dX4_topDialog_26 rfl (lv_at hl 1 rfl) ?_
            refine lv_iconst (v := (-1)) C.1 C.2.1 dX4_topDialog_27 (by decide) ?_
            refine b_ieq (tgt := 46) C dX4_topDialog_28 (by decide) h (fun h => ?_) (fun h => ?_)
            · exact J46 (v2) _ _ _ hP hS (lv_sub hl [0, 2] rfl) h
            · refine lv_aload_n C.1 C.2.1 dX4_topDialog_31 rfl (lv_at hl 0 rfl) ?_
              refine r_tF C hK hP hT cl_4 (k := 8) (by decide) wd_152 rfl dX4_topDialog_32 h (fun b3 h => ?_)
              refine lv_iload_n C.1 C.2.1 dX4_topDialog_35 rfl (lv_at hl 2 rfl) ?_
              refine r_aI C hK hP dX4_topDialog_36 h (fun x4 h => ?_)
              refine lv_aload_n C.1 C.2.1 dX4_topDialog_37 rfl (lv_at hl 0 rfl) ?_
              refine r_tF C hK hP hT cl_4 (k := 8) (by decide) wd_152 rfl dX4_topDialog_38 h (fun b5 h => ?_)
              refine lv_iload_n C.1 C.2.1 dX4_topDialog_41 rfl (lv_at hl 1 rfl) ?_
              refine r_aI C hK hP dX4_topDialog_42 h (fun x6 h => ?_)
              refine b_ile (tgt := 48) C dX4_topDialog_43 (by decide) h (fun h => ?_) (fun h => ?_)
              · exact J48 (v1) (v2) _ _ _ hP hS (lv_sub hl [0, 1, 2] rfl) h
              · exact J46 (v2) _ _ _ hP hS (lv_sub hl [0, 2] rfl) h
      · refine lv_iload_n C.1 C.2.1 dX4_topDialog_54 rfl (lv_at hl 1 rfl) ?_
        have e := Option.some.inj h
        rw [← e] at hz1
        replace e := itK_inr hz1
        exact q_i C hlk hP hS hr (by rw [← e]) rfl dX4_topDialog_55
  unfold fX4_topDialog at h
  refine lv_iconst (v := (-1)) C.1 C.2.1 dX4_topDialog_0 (by decide) ?_
  refine lv_istore_n (lv' := [(1, .int (-1)), (0, .ref a0)]) C.1 C.2.1 dX4_topDialog_1 rfl hl (by decide) rfl (fun ls hl => ?_)
  refine lv_iconst (v := 0) C.1 C.2.1 dX4_topDialog_2 (by decide) ?_
  refine lv_istore_n (lv' := [(2, .int 0), (1, .int (-1)), (0, .ref a0)]) C.1 C.2.1 dX4_topDialog_3 rfl hl (by decide) rfl (fun ls hl => ?_)
  exact J4  n ((-1)) (0) _ _ _ hP hS (lv_sub hl [2, 1, 0] rfl) h
theorem dX4_regionOf_0 : decode cX4_regionOf 0 = .ok (.iload_n 1, 1) := by decide +kernel
theorem dX4_regionOf_1 : decode cX4_regionOf 1 = .ok (.istore_n 2, 1) := by decide +kernel
theorem dX4_regionOf_2 : decode cX4_regionOf 2 = .ok (.iconst 0, 1) := by decide +kernel
theorem dX4_regionOf_3 : decode cX4_regionOf 3 = .ok (.istore_n 3, 1) := by decide +kernel
theorem dX4_regionOf_4 : decode cX4_regionOf 4 = .ok (.iload_n 3, 1) := by decide +kernel
theorem dX4_regionOf_5 : decode cX4_regionOf 5 = .ok (.bipush 24, 2) := by decide +kernel
theorem dX4_regionOf_7 : decode cX4_regionOf 7 = .ok (.if_icmp .ge 45, 3) := by decide +kernel
theorem dX4_regionOf_10 : decode cX4_regionOf 10 = .ok (.iload_n 2, 1) := by decide +kernel
theorem dX4_regionOf_11 : decode cX4_regionOf 11 = .ok (.iconst (-1), 1) := by decide +kernel
theorem dX4_regionOf_12 : decode cX4_regionOf 12 = .ok (.if_icmp .eq 40, 3) := by decide +kernel
theorem dX4_regionOf_15 : decode cX4_regionOf 15 = .ok (.aload_n 0, 1) := by decide +kernel
theorem dX4_regionOf_16 : decode cX4_regionOf 16 = .ok (.iload_n 2, 1) := by decide +kernel
theorem dX4_regionOf_17 : decode cX4_regionOf 17 = .ok (.iconst 3, 1) := by decide +kernel
theorem dX4_regionOf_18 : decode cX4_regionOf 18 = .ok (.invokevirtual 105, 3) := by decide +kernel
theorem dX4_regionOf_21 : decode cX4_regionOf 21 = .ok (.ifCond .eq 19, 3) := by decide +kernel
theorem dX4_regionOf_24 : decode cX4_regionOf 24 = .ok (.aload_n 0, 1) := by decide +kernel
theorem dX4_regionOf_25 : decode cX4_regionOf 25 = .ok (.iload_n 2, 1) := by decide +kernel
theorem dX4_regionOf_26 : decode cX4_regionOf 26 = .ok (.iconst 3, 1) := by decide +kernel
theorem dX4_regionOf_27 : decode cX4_regionOf 27 = .ok (.invokevirtual 105, 3) := by decide +kernel
theorem dX4_regionOf_30 : decode cX4_regionOf 30 = .ok (.iconst 1, 1) := by decide +kernel
theorem dX4_regionOf_31 : decode cX4_regionOf 31 = .ok (.if_icmp .ne 7, 3) := by decide +kernel
theorem dX4_regionOf_34 : decode cX4_regionOf 34 = .ok (.iconst (-1), 1) := by decide +kernel
theorem dX4_regionOf_35 : decode cX4_regionOf 35 = .ok (.goto 4, 3) := by decide +kernel
theorem dX4_regionOf_38 : decode cX4_regionOf 38 = .ok (.iload_n 2, 1) := by decide +kernel
theorem dX4_regionOf_39 : decode cX4_regionOf 39 = .ok (.ireturn, 1) := by decide +kernel
theorem dX4_regionOf_40 : decode cX4_regionOf 40 = .ok (.aload_n 0, 1) := by decide +kernel
theorem dX4_regionOf_41 : decode cX4_regionOf 41 = .ok (.iload_n 2, 1) := by decide +kernel
theorem dX4_regionOf_42 : decode cX4_regionOf 42 = .ok (.invokevirtual 77, 3) := by decide +kernel
theorem dX4_regionOf_45 : decode cX4_regionOf 45 = .ok (.istore_n 2, 1) := by decide +kernel
theorem dX4_regionOf_46 : decode cX4_regionOf 46 = .ok (.iinc 3 1, 3) := by decide +kernel
theorem dX4_regionOf_49 : decode cX4_regionOf 49 = .ok (.goto (-45), 3) := by decide +kernel
theorem dX4_regionOf_52 : decode cX4_regionOf 52 = .ok (.iconst (-1), 1) := by decide +kernel
theorem dX4_regionOf_53 : decode cX4_regionOf 53 = .ok (.ireturn, 1) := by decide +kernel
abbrev rmX4_regionOf : Room := { frames := 2, cells := 0, slots := 0, locals := 62 }
noncomputable def fX4_regionOf_24 (n : Nat) (Sh : Sp) (M : Mm) (a0 : Nat) (a1 : Int32) (v2 : Int32) : Option Int32 :=
  (fX4_setting n Sh M a0 v2 3).bind fun r1 =>
  if r1 = 1 then
    some (-1)
  else
    some v2
noncomputable def fX4_regionOf_4b (n : Nat) (Sh : Sp) (M : Mm) (a0 : Nat) (a1 : Int32) (v2 : Int32) (v3 : Int32) : Option ((Int32 × Int32) ⊕ Int32) :=
  if v3 < 24 then
    if v2 = (-1) then
      some (Sum.inr (-1))
    else
      (fX4_setting n Sh M a0 v2 3).bind fun r2 =>
      if r2 = 0 then
        (fX4_parentOf n Sh M a0 v2).bind fun r3 =>
        some (Sum.inl (r3, (v3 + 1)))
      else
        (fX4_regionOf_24 n Sh M a0 a1 v2).map Sum.inr
  else
    some (Sum.inr (-1))
noncomputable def fX4_regionOf_4 (n : Nat) (Sh : Sp) (M : Mm) (a0 : Nat) (a1 : Int32) (v2 : Int32) (v3 : Int32) : Option Int32 :=
  iter n (fun s => fX4_regionOf_4b n Sh M a0 a1 s.1 s.2) (v2, v3)
noncomputable def fX4_regionOf (n : Nat) (Sh : Sp) (M : Mm) (a0 : Nat) (a1 : Int32) : Option Int32 :=
  fX4_regionOf_4 n Sh M a0 a1 a1 0
set_option maxRecDepth 100000 in
set_option maxHeartbeats 4000000 in
theorem kX4_regionOf {l : Launch} {G : Gt} {n : Nat} {Sh : Sp} {M : Mm} {a0 : Nat} {a1 : Int32} (hT : Sh a0 = some (.inl 4)) {r : Int32} (h : fX4_regionOf n Sh M a0 a1 = some r) : Ct l yX4_regionOf cX4_regionOf 4 (some .int) rmX4_regionOf G Sh M [.ref a0, .int a1] (some (.int r)) M := by
  refine Ct.of (by decide) (Nat.le_of_ble_eq_true rfl) ?_
  intro p e s m args below meth c ls C hK hX hP hS hb hlk hr hl
  replace hl : lv_has ls 4 [(0, .ref a0), (1, .int a1)] := hl
  have J24 : ∀ (v2 : Int32) (H : Heap) (locs : List Loc) (ls : Array Slot), HM G Sh M H → SS G s s.heap.size H locs → lv_has ls 4 [(0, .ref a0), (1, .int a1), (2, .int v2)] → fX4_regionOf_24 n Sh M a0 a1 v2 = some r → W p l e rmX4_regionOf s m args below meth c H locs 0 0 (MQ below (QG G Sh M (some (.int r))) args s rmX4_regionOf.cells rmX4_regionOf.slots (AA G)) (F0 m 24 ls []) := by
    intro v2 H locs ls hP hS hl h
    unfold fX4_regionOf_24 at h
    refine lv_aload_n C.1 C.2.1 dX4_regionOf_24 rfl (lv_at hl 0 rfl) ?_
    refine lv_iload_n C.1 C.2.1 dX4_regionOf_25 rfl (lv_at hl 2 rfl) ?_
    refine lv_iconst (v := 3) C.1 C.2.1 dX4_regionOf_26 (by decide) ?_
    obtain ⟨r1, hc, h⟩ := bS h
    refine r_V1 C hK hX hb hP hS hl.1 (kX4_setting (hT) hc) hT cl_4 wd_354 mo_X4_setting wd_355 wd_356 ⟨Nat.le_of_ble_eq_true rfl, Nat.le_of_ble_eq_true rfl⟩ ⟨Nat.le_of_ble_eq_true rfl, Nat.le_of_ble_eq_true rfl⟩ rfl (rest := []) rfl (Nat.le_of_ble_eq_true rfl) dX4_regionOf_27 (fun H locs hP hS => ?_)
    refine lv_iconst (v := 1) C.1 C.2.1 dX4_regionOf_30 (by decide) ?_
    refine b_ine (tgt := 38) C dX4_regionOf_31 (by decide) h (fun h => ?_) (fun h => ?_)
    · refine lv_iconst (v := (-1)) C.1 C.2.1 dX4_regionOf_34 (by decide) ?_
      refine lv_goto (tgt := 39) C.1 C.2.1 dX4_regionOf_35 (by decide) ?_
      have e := Option.some.inj h
      exact q_i C hlk hP hS hr (by rw [← e]) rfl dX4_regionOf_39
    · refine lv_iload_n C.1 C.2.1 dX4_regionOf_38 rfl (lv_at hl 2 rfl) ?_
      have e := Option.some.inj h
      exact q_i C hlk hP hS hr (by rw [← e]) rfl dX4_regionOf_39
  have J4 : ∀ (k : Nat) (v2 : Int32) (v3 : Int32) (H : Heap) (locs : List Loc) (ls : Array Slot), HM G Sh M H → SS G s s.heap.size H locs → lv_has ls 4 [(0, .ref a0), (1, .int a1), (2, .int v2), (3, .int v3)] → iter k (fun s => fX4_regionOf_4b n Sh M a0 a1 s.1 s.2) (v2, v3) = some r → W p l e rmX4_regionOf s m args below meth c H locs 0 0 (MQ below (QG G Sh M (some (.int r))) args s rmX4_regionOf.cells rmX4_regionOf.slots (AA G)) (F0 m 4 ls []) := by
    intro k
    induction k with
    | zero => intro v2 v3 H locs ls hP hS hl h; exact (iter_0 h).elim
    | succ k ih1 =>
      intro v2 v3 H locs ls hP hS hl h
      obtain ⟨z1, h, hz1⟩ := iter_some h
      replace h : fX4_regionOf_4b n Sh M a0 a1 v2 v3 = some z1 := h
      unfold fX4_regionOf_4b at h
      refine lv_iload_n C.1 C.2.1 dX4_regionOf_4 rfl (lv_at hl 3 rfl) ?_
      refine lv_bipush (v := 24) C.1 C.2.1 dX4_regionOf_5 (by decide) ?_
      refine b_ige (tgt := 52) C dX4_regionOf_7 (by decide) h (fun h => ?_) (fun h => ?_)
      · refine lv_iload_n C.1 C.2.1 dX4_regionOf_10 rfl (lv_at hl 2 rfl) ?_
        refine lv_iconst (v := (-1)) C.1 C.2.1 dX4_regionOf_11 (by decide) ?_
        refine b_ieq (tgt := 52) C dX4_regionOf_12 (by decide) h (fun h => ?_) (fun h => ?_)
        · refine lv_iconst (v := (-1)) C.1 C.2.1 dX4_regionOf_52 (by decide) ?_
          have e := Option.some.inj h
          rw [← e] at hz1
          replace e := itK_inr hz1
          exact q_i C hlk hP hS hr (by rw [← e]) rfl dX4_regionOf_53
        · refine lv_aload_n C.1 C.2.1 dX4_regionOf_15 rfl (lv_at hl 0 rfl) ?_
          refine lv_iload_n C.1 C.2.1 dX4_regionOf_16 rfl (lv_at hl 2 rfl) ?_
          refine lv_iconst (v := 3) C.1 C.2.1 dX4_regionOf_17 (by decide) ?_
          obtain ⟨r2, hc, h⟩ := bS h
          refine r_V1 C hK hX hb hP hS hl.1 (kX4_setting (hT) hc) hT cl_4 wd_354 mo_X4_setting wd_355 wd_356 ⟨Nat.le_of_ble_eq_true rfl, Nat.le_of_ble_eq_true rfl⟩ ⟨Nat.le_of_ble_eq_true rfl, Nat.le_of_ble_eq_true rfl⟩ rfl (rest := []) rfl (Nat.le_of_ble_eq_true rfl) dX4_regionOf_18 (fun H locs hP hS => ?_)
          refine b_eq (tgt := 40) C dX4_regionOf_21 (by decide) h (fun h => ?_) (fun h => ?_)
          · refine lv_aload_n C.1 C.2.1 dX4_regionOf_40 rfl (lv_at hl 0 rfl) ?_
            refine lv_iload_n C.1 C.2.1 dX4_regionOf_41 rfl (lv_at hl 2 rfl) ?_
            obtain ⟨r3, hc, h⟩ := bS h
            refine r_V1 C hK hX hb hP hS hl.1 (kX4_parentOf (hT) hc) hT cl_4 wd_305 mo_X4_parentOf wd_306 wd_307 ⟨Nat.le_of_ble_eq_true rfl, Nat.le_of_ble_eq_true rfl⟩ ⟨Nat.le_of_ble_eq_true rfl, Nat.le_of_ble_eq_true rfl⟩ rfl (rest := []) rfl (Nat.le_of_ble_eq_true rfl) dX4_regionOf_42 (fun H locs hP hS => ?_)
            refine lv_istore_n (lv' := [(2, .int r3), (0, .ref a0), (1, .int a1), (3, .int v3)]) C.1 C.2.1 dX4_regionOf_45 rfl hl (by decide) rfl (fun ls hl => ?_)
            refine lv_iinc (v := (v3 + 1)) (lv' := [(3, .int (v3 + 1)), (2, .int r3), (0, .ref a0), (1, .int a1)]) C.1 C.2.1 dX4_regionOf_46 hl (k := 3) rfl rfl (by decide) rfl (fun ls hl => ?_)
            refine lv_goto (tgt := 4) C.1 C.2.1 dX4_regionOf_49 (by decide) ?_
            have e := Option.some.inj h
            rw [← e] at hz1
            exact ih1 (r3) ((v3 + 1)) _ _ _ hP hS (lv_sub hl [2, 3, 1, 0] rfl) (itK_inl hz1)
          · obtain ⟨w1, h, e⟩ := mS h
            rw [← e] at hz1
            replace e := itK_inr hz1
            rw [e] at h
            exact J24 (v2) _ _ _ hP hS (lv_sub hl [0, 1, 2] rfl) h
      · refine lv_iconst (v := (-1)) C.1 C.2.1 dX4_regionOf_52 (by decide) ?_
        have e := Option.some.inj h
        rw [← e] at hz1
        replace e := itK_inr hz1
        exact q_i C hlk hP hS hr (by rw [← e]) rfl dX4_regionOf_53
  unfold fX4_regionOf at h
  refine lv_iload_n C.1 C.2.1 dX4_regionOf_0 rfl (lv_at hl 1 rfl) ?_
  refine lv_istore_n (lv' := [(2, .int a1), (0, .ref a0), (1, .int a1)]) C.1 C.2.1 dX4_regionOf_1 rfl hl (by decide) rfl (fun ls hl => ?_)
  refine lv_iconst (v := 0) C.1 C.2.1 dX4_regionOf_2 (by decide) ?_
  refine lv_istore_n (lv' := [(3, .int 0), (2, .int a1), (0, .ref a0), (1, .int a1)]) C.1 C.2.1 dX4_regionOf_3 rfl hl (by decide) rfl (fun ls hl => ?_)
  exact J4  n (a1) (0) _ _ _ hP hS (lv_sub hl [2, 3, 1, 0] rfl) h
theorem dX4_about_0 : decode cX4_about 0 = .ok (.iload_n 2, 1) := by decide +kernel
theorem dX4_about_1 : decode cX4_about 1 = .ok (.tableswitch 165 0 14 #[75, 81, 87, 93, 99, 108, 117, 165, 165, 165, 165, 165, 123, 137, 151], 75) := by decide +kernel
theorem dX4_about_76 : decode cX4_about 76 = .ok (.aload_n 0, 1) := by decide +kernel
theorem dX4_about_77 : decode cX4_about 77 = .ok (.iload_n 1, 1) := by decide +kernel
theorem dX4_about_78 : decode cX4_about 78 = .ok (.invokevirtual 108, 3) := by decide +kernel
theorem dX4_about_81 : decode cX4_about 81 = .ok (.ireturn, 1) := by decide +kernel
theorem dX4_about_82 : decode cX4_about 82 = .ok (.aload_n 0, 1) := by decide +kernel
theorem dX4_about_83 : decode cX4_about 83 = .ok (.iload_n 1, 1) := by decide +kernel
theorem dX4_about_84 : decode cX4_about 84 = .ok (.invokevirtual 77, 3) := by decide +kernel
theorem dX4_about_87 : decode cX4_about 87 = .ok (.ireturn, 1) := by decide +kernel
theorem dX4_about_88 : decode cX4_about 88 = .ok (.aload_n 0, 1) := by decide +kernel
theorem dX4_about_89 : decode cX4_about 89 = .ok (.iload_n 1, 1) := by decide +kernel
theorem dX4_about_90 : decode cX4_about 90 = .ok (.invokevirtual 88, 3) := by decide +kernel
theorem dX4_about_93 : decode cX4_about 93 = .ok (.ireturn, 1) := by decide +kernel
theorem dX4_about_94 : decode cX4_about 94 = .ok (.aload_n 0, 1) := by decide +kernel
theorem dX4_about_95 : decode cX4_about 95 = .ok (.iload_n 1, 1) := by decide +kernel
theorem dX4_about_96 : decode cX4_about 96 = .ok (.invokevirtual 81, 3) := by decide +kernel
theorem dX4_about_99 : decode cX4_about 99 = .ok (.ireturn, 1) := by decide +kernel
theorem dX4_about_100 : decode cX4_about 100 = .ok (.aload_n 0, 1) := by decide +kernel
theorem dX4_about_101 : decode cX4_about 101 = .ok (.iload_n 1, 1) := by decide +kernel
theorem dX4_about_102 : decode cX4_about 102 = .ok (.invokevirtual 120, 3) := by decide +kernel
theorem dX4_about_105 : decode cX4_about 105 = .ok (.getfield 124, 3) := by decide +kernel
theorem dX4_about_108 : decode cX4_about 108 = .ok (.ireturn, 1) := by decide +kernel
theorem dX4_about_109 : decode cX4_about 109 = .ok (.aload_n 0, 1) := by decide +kernel
theorem dX4_about_110 : decode cX4_about 110 = .ok (.iload_n 1, 1) := by decide +kernel
theorem dX4_about_111 : decode cX4_about 111 = .ok (.invokevirtual 127, 3) := by decide +kernel
theorem dX4_about_114 : decode cX4_about 114 = .ok (.getfield 124, 3) := by decide +kernel
theorem dX4_about_117 : decode cX4_about 117 = .ok (.ireturn, 1) := by decide +kernel
theorem dX4_about_118 : decode cX4_about 118 = .ok (.aload_n 0, 1) := by decide +kernel
theorem dX4_about_119 : decode cX4_about 119 = .ok (.iload_n 1, 1) := by decide +kernel
theorem dX4_about_120 : decode cX4_about 120 = .ok (.invokevirtual 130, 3) := by decide +kernel
theorem dX4_about_123 : decode cX4_about 123 = .ok (.ireturn, 1) := by decide +kernel
theorem dX4_about_124 : decode cX4_about 124 = .ok (.aload_n 0, 1) := by decide +kernel
theorem dX4_about_125 : decode cX4_about 125 = .ok (.iload_n 1, 1) := by decide +kernel
theorem dX4_about_126 : decode cX4_about 126 = .ok (.invokevirtual 111, 3) := by decide +kernel
theorem dX4_about_129 : decode cX4_about 129 = .ok (.ifCond .eq 7, 3) := by decide +kernel
theorem dX4_about_132 : decode cX4_about 132 = .ok (.iconst 1, 1) := by decide +kernel
theorem dX4_about_133 : decode cX4_about 133 = .ok (.goto 4, 3) := by decide +kernel
theorem dX4_about_136 : decode cX4_about 136 = .ok (.iconst 0, 1) := by decide +kernel
theorem dX4_about_137 : decode cX4_about 137 = .ok (.ireturn, 1) := by decide +kernel
theorem dX4_about_138 : decode cX4_about 138 = .ok (.aload_n 0, 1) := by decide +kernel
theorem dX4_about_139 : decode cX4_about 139 = .ok (.iload_n 1, 1) := by decide +kernel
theorem dX4_about_140 : decode cX4_about 140 = .ok (.invokevirtual 114, 3) := by decide +kernel
theorem dX4_about_143 : decode cX4_about 143 = .ok (.ifCond .eq 7, 3) := by decide +kernel
theorem dX4_about_146 : decode cX4_about 146 = .ok (.iconst 1, 1) := by decide +kernel
theorem dX4_about_147 : decode cX4_about 147 = .ok (.goto 4, 3) := by decide +kernel
theorem dX4_about_150 : decode cX4_about 150 = .ok (.iconst 0, 1) := by decide +kernel
theorem dX4_about_151 : decode cX4_about 151 = .ok (.ireturn, 1) := by decide +kernel
theorem dX4_about_152 : decode cX4_about 152 = .ok (.aload_n 0, 1) := by decide +kernel
theorem dX4_about_153 : decode cX4_about 153 = .ok (.iload_n 1, 1) := by decide +kernel
theorem dX4_about_154 : decode cX4_about 154 = .ok (.invokevirtual 117, 3) := by decide +kernel
theorem dX4_about_157 : decode cX4_about 157 = .ok (.ifCond .eq 7, 3) := by decide +kernel
theorem dX4_about_160 : decode cX4_about 160 = .ok (.iconst 1, 1) := by decide +kernel
theorem dX4_about_161 : decode cX4_about 161 = .ok (.goto 4, 3) := by decide +kernel
theorem dX4_about_164 : decode cX4_about 164 = .ok (.iconst 0, 1) := by decide +kernel
theorem dX4_about_165 : decode cX4_about 165 = .ok (.ireturn, 1) := by decide +kernel
theorem dX4_about_166 : decode cX4_about 166 = .ok (.aload_n 0, 1) := by decide +kernel
theorem dX4_about_167 : decode cX4_about 167 = .ok (.iload_n 1, 1) := by decide +kernel
theorem dX4_about_168 : decode cX4_about 168 = .ok (.iload_n 2, 1) := by decide +kernel
theorem dX4_about_169 : decode cX4_about 169 = .ok (.bipush 7, 2) := by decide +kernel
theorem dX4_about_171 : decode cX4_about 171 = .ok (.isub, 1) := by decide +kernel
theorem dX4_about_172 : decode cX4_about 172 = .ok (.invokevirtual 105, 3) := by decide +kernel
theorem dX4_about_175 : decode cX4_about 175 = .ok (.ireturn, 1) := by decide +kernel
abbrev rmX4_about : Room := { frames := 4, cells := 0, slots := 0, locals := 106 }
noncomputable def fX4_about (n : Nat) (Sh : Sp) (M : Mm) (a0 : Nat) (a1 : Int32) (a2 : Int32) : Option Int32 :=
  if a2 = 0 then
    (fX4_roleOf n Sh M a0 a1).bind fun r1 =>
    some r1
  else if a2 = 1 then
    (fX4_parentOf n Sh M a0 a1).bind fun r2 =>
    some r2
  else if a2 = 2 then
    (fX4_placeOf n Sh M a0 a1).bind fun r3 =>
    some r3
  else if a2 = 3 then
    (fX4_kidCount n Sh M a0 a1).bind fun r4 =>
    some r4
  else if a2 = 4 then
    (fX4_textOf n Sh M a0 a1).bind fun r5 =>
    gI Sh M r5 5 1 fun x6 =>
    some x6
  else if a2 = 5 then
    (fX4_labelOf n Sh M a0 a1).bind fun r7 =>
    gI Sh M r7 5 1 fun x8 =>
    some x8
  else if a2 = 6 then
    (fX4_labellerOf n Sh M a0 a1).bind fun r9 =>
    some r9
  else if a2 = 7 then
    (fX4_setting n Sh M a0 a1 (a2 - 7)).bind fun r10 =>
    some r10
  else if a2 = 8 then
    (fX4_setting n Sh M a0 a1 (a2 - 7)).bind fun r11 =>
    some r11
  else if a2 = 9 then
    (fX4_setting n Sh M a0 a1 (a2 - 7)).bind fun r12 =>
    some r12
  else if a2 = 10 then
    (fX4_setting n Sh M a0 a1 (a2 - 7)).bind fun r13 =>
    some r13
  else if a2 = 11 then
    (fX4_setting n Sh M a0 a1 (a2 - 7)).bind fun r14 =>
    some r14
  else if a2 = 12 then
    (fX4_isOpen n Sh M a0 a1).bind fun r15 =>
    if r15 = 0 then
      some 0
    else
      some 1
  else if a2 = 13 then
    (fX4_isOut n Sh M a0 a1).bind fun r16 =>
    if r16 = 0 then
      some 0
    else
      some 1
  else if a2 = 14 then
    (fX4_isShown n Sh M a0 a1).bind fun r17 =>
    if r17 = 0 then
      some 0
    else
      some 1
  else
    (fX4_setting n Sh M a0 a1 (a2 - 7)).bind fun r18 =>
    some r18
set_option maxRecDepth 100000 in
set_option maxHeartbeats 4000000 in
theorem kX4_about {l : Launch} {G : Gt} {n : Nat} {Sh : Sp} {M : Mm} {a0 : Nat} {a1 : Int32} {a2 : Int32} (hT : Sh a0 = some (.inl 4)) {r : Int32} (h : fX4_about n Sh M a0 a1 a2 = some r) : Ct l yX4_about cX4_about 3 (some .int) rmX4_about G Sh M [.ref a0, .int a1, .int a2] (some (.int r)) M := by
  refine Ct.of (by decide) (Nat.le_of_ble_eq_true rfl) ?_
  intro p e s m args below meth c ls C hK hX hP hS hb hlk hr hl
  replace hl : lv_has ls 3 [(0, .ref a0), (1, .int a1), (2, .int a2)] := hl
  unfold fX4_about at h
  refine lv_iload_n C.1 C.2.1 dX4_about_0 rfl (lv_at hl 2 rfl) ?_
  by_cases q0 : a2 = 0
  · rw [if_pos q0] at h
    refine lv_tableIn (off := 75) (tgt := 76) C.1 C.2.1 dX4_about_1 (by rw [q0]; decide) (by rw [q0]; decide) (by rw [q0]; decide) (by decide) ?_
    refine lv_aload_n C.1 C.2.1 dX4_about_76 rfl (lv_at hl 0 rfl) ?_
    refine lv_iload_n C.1 C.2.1 dX4_about_77 rfl (lv_at hl 1 rfl) ?_
    obtain ⟨r1, hc, h⟩ := bS h
    refine r_V1 C hK hX hb hP hS hl.1 (kX4_roleOf (hT) hc) hT cl_4 wd_358 mo_X4_roleOf wd_359 wd_360 ⟨Nat.le_of_ble_eq_true rfl, Nat.le_of_ble_eq_true rfl⟩ ⟨Nat.le_of_ble_eq_true rfl, Nat.le_of_ble_eq_true rfl⟩ rfl (rest := []) rfl (Nat.le_of_ble_eq_true rfl) dX4_about_78 (fun H locs hP hS => ?_)
    have e := Option.some.inj h
    exact q_i C hlk hP hS hr (by rw [← e]) rfl dX4_about_81
  rw [if_neg q0] at h
  by_cases q1 : a2 = 1
  · rw [if_pos q1] at h
    refine lv_tableIn (off := 81) (tgt := 82) C.1 C.2.1 dX4_about_1 (by rw [q1]; decide) (by rw [q1]; decide) (by rw [q1]; decide) (by decide) ?_
    refine lv_aload_n C.1 C.2.1 dX4_about_82 rfl (lv_at hl 0 rfl) ?_
    refine lv_iload_n C.1 C.2.1 dX4_about_83 rfl (lv_at hl 1 rfl) ?_
    obtain ⟨r2, hc, h⟩ := bS h
    refine r_V1 C hK hX hb hP hS hl.1 (kX4_parentOf (hT) hc) hT cl_4 wd_305 mo_X4_parentOf wd_306 wd_307 ⟨Nat.le_of_ble_eq_true rfl, Nat.le_of_ble_eq_true rfl⟩ ⟨Nat.le_of_ble_eq_true rfl, Nat.le_of_ble_eq_true rfl⟩ rfl (rest := []) rfl (Nat.le_of_ble_eq_true rfl) dX4_about_84 (fun H locs hP hS => ?_)
    have e := Option.some.inj h
    exact q_i C hlk hP hS hr (by rw [← e]) rfl dX4_about_87
  rw [if_neg q1] at h
  by_cases q2 : a2 = 2
  · rw [if_pos q2] at h
    refine lv_tableIn (off := 87) (tgt := 88) C.1 C.2.1 dX4_about_1 (by rw [q2]; decide) (by rw [q2]; decide) (by rw [q2]; decide) (by decide) ?_
    refine lv_aload_n C.1 C.2.1 dX4_about_88 rfl (lv_at hl 0 rfl) ?_
    refine lv_iload_n C.1 C.2.1 dX4_about_89 rfl (lv_at hl 1 rfl) ?_
    obtain ⟨r3, hc, h⟩ := bS h
    refine r_V1 C hK hX hb hP hS hl.1 (kX4_placeOf (hT) hc) hT cl_4 wd_636 mo_X4_placeOf wd_637 wd_638 ⟨Nat.le_of_ble_eq_true rfl, Nat.le_of_ble_eq_true rfl⟩ ⟨Nat.le_of_ble_eq_true rfl, Nat.le_of_ble_eq_true rfl⟩ rfl (rest := []) rfl (Nat.le_of_ble_eq_true rfl) dX4_about_90 (fun H locs hP hS => ?_)
    have e := Option.some.inj h
    exact q_i C hlk hP hS hr (by rw [← e]) rfl dX4_about_93
  rw [if_neg q2] at h
  by_cases q3 : a2 = 3
  · rw [if_pos q3] at h
    refine lv_tableIn (off := 93) (tgt := 94) C.1 C.2.1 dX4_about_1 (by rw [q3]; decide) (by rw [q3]; decide) (by rw [q3]; decide) (by decide) ?_
    refine lv_aload_n C.1 C.2.1 dX4_about_94 rfl (lv_at hl 0 rfl) ?_
    refine lv_iload_n C.1 C.2.1 dX4_about_95 rfl (lv_at hl 1 rfl) ?_
    obtain ⟨r4, hc, h⟩ := bS h
    refine r_V1 C hK hX hb hP hS hl.1 (kX4_kidCount (hT) hc) hT cl_4 wd_321 mo_X4_kidCount wd_322 wd_323 ⟨Nat.le_of_ble_eq_true rfl, Nat.le_of_ble_eq_true rfl⟩ ⟨Nat.le_of_ble_eq_true rfl, Nat.le_of_ble_eq_true rfl⟩ rfl (rest := []) rfl (Nat.le_of_ble_eq_true rfl) dX4_about_96 (fun H locs hP hS => ?_)
    have e := Option.some.inj h
    exact q_i C hlk hP hS hr (by rw [← e]) rfl dX4_about_99
  rw [if_neg q3] at h
  by_cases q4 : a2 = 4
  · rw [if_pos q4] at h
    refine lv_tableIn (off := 99) (tgt := 100) C.1 C.2.1 dX4_about_1 (by rw [q4]; decide) (by rw [q4]; decide) (by rw [q4]; decide) (by decide) ?_
    refine lv_aload_n C.1 C.2.1 dX4_about_100 rfl (lv_at hl 0 rfl) ?_
    refine lv_iload_n C.1 C.2.1 dX4_about_101 rfl (lv_at hl 1 rfl) ?_
    obtain ⟨r5, hc, h⟩ := bS h
    refine r_V1 C hK hX hb hP hS hl.1 (kX4_textOf (hT) hc) hT cl_4 wd_470 mo_X4_textOf wd_471 wd_472 ⟨Nat.le_of_ble_eq_true rfl, Nat.le_of_ble_eq_true rfl⟩ ⟨Nat.le_of_ble_eq_true rfl, Nat.le_of_ble_eq_true rfl⟩ rfl (rest := []) rfl (Nat.le_of_ble_eq_true rfl) dX4_about_102 (fun H locs hP hS => ?_)
    refine r_gIN C hK hP cl_5 (k := 1) (by decide) (hX.nw wd_128) rfl dX4_about_105 h (fun x6 h => ?_)
    have e := Option.some.inj h
    exact q_i C hlk hP hS hr (by rw [← e]) rfl dX4_about_108
  rw [if_neg q4] at h
  by_cases q5 : a2 = 5
  · rw [if_pos q5] at h
    refine lv_tableIn (off := 108) (tgt := 109) C.1 C.2.1 dX4_about_1 (by rw [q5]; decide) (by rw [q5]; decide) (by rw [q5]; decide) (by decide) ?_
    refine lv_aload_n C.1 C.2.1 dX4_about_109 rfl (lv_at hl 0 rfl) ?_
    refine lv_iload_n C.1 C.2.1 dX4_about_110 rfl (lv_at hl 1 rfl) ?_
    obtain ⟨r7, hc, h⟩ := bS h
    refine r_V1 C hK hX hb hP hS hl.1 (kX4_labelOf (hT) hc) hT cl_4 wd_490 mo_X4_labelOf wd_491 wd_492 ⟨Nat.le_of_ble_eq_true rfl, Nat.le_of_ble_eq_true rfl⟩ ⟨Nat.le_of_ble_eq_true rfl, Nat.le_of_ble_eq_true rfl⟩ rfl (rest := []) rfl (Nat.le_of_ble_eq_true rfl) dX4_about_111 (fun H locs hP hS => ?_)
    refine r_gIN C hK hP cl_5 (k := 1) (by decide) (hX.nw wd_128) rfl dX4_about_114 h (fun x8 h => ?_)
    have e := Option.some.inj h
    exact q_i C hlk hP hS hr (by rw [← e]) rfl dX4_about_117
  rw [if_neg q5] at h
  by_cases q6 : a2 = 6
  · rw [if_pos q6] at h
    refine lv_tableIn (off := 117) (tgt := 118) C.1 C.2.1 dX4_about_1 (by rw [q6]; decide) (by rw [q6]; decide) (by rw [q6]; decide) (by decide) ?_
    refine lv_aload_n C.1 C.2.1 dX4_about_118 rfl (lv_at hl 0 rfl) ?_
    refine lv_iload_n C.1 C.2.1 dX4_about_119 rfl (lv_at hl 1 rfl) ?_
    obtain ⟨r9, hc, h⟩ := bS h
    refine r_V1 C hK hX hb hP hS hl.1 (kX4_labellerOf (hT) hc) hT cl_4 wd_462 mo_X4_labellerOf wd_463 wd_464 ⟨Nat.le_of_ble_eq_true rfl, Nat.le_of_ble_eq_true rfl⟩ ⟨Nat.le_of_ble_eq_true rfl, Nat.le_of_ble_eq_true rfl⟩ rfl (rest := []) rfl (Nat.le_of_ble_eq_true rfl) dX4_about_120 (fun H locs hP hS => ?_)
    have e := Option.some.inj h
    exact q_i C hlk hP hS hr (by rw [← e]) rfl dX4_about_123
  rw [if_neg q6] at h
  by_cases q7 : a2 = 7
  · rw [if_pos q7] at h
    refine lv_tableIn (off := 165) (tgt := 166) C.1 C.2.1 dX4_about_1 (by rw [q7]; decide) (by rw [q7]; decide) (by rw [q7]; decide) (by decide) ?_
    refine lv_aload_n C.1 C.2.1 dX4_about_166 rfl (lv_at hl 0 rfl) ?_
    refine lv_iload_n C.1 C.2.1 dX4_about_167 rfl (lv_at hl 1 rfl) ?_
    refine lv_iload_n C.1 C.2.1 dX4_about_168 rfl (lv_at hl 2 rfl) ?_
    refine lv_bipush (v := 7) C.1 C.2.1 dX4_about_169 (by decide) ?_
    refine lv_isub C.1 C.2.1 dX4_about_171 ?_
    obtain ⟨r10, hc, h⟩ := bS h
    refine r_V1 C hK hX hb hP hS hl.1 (kX4_setting (hT) hc) hT cl_4 wd_354 mo_X4_setting wd_355 wd_356 ⟨Nat.le_of_ble_eq_true rfl, Nat.le_of_ble_eq_true rfl⟩ ⟨Nat.le_of_ble_eq_true rfl, Nat.le_of_ble_eq_true rfl⟩ rfl (rest := []) rfl (Nat.le_of_ble_eq_true rfl) dX4_about_172 (fun H locs hP hS => ?_)
    have e := Option.some.inj h
    exact q_i C hlk hP hS hr (by rw [← e]) rfl dX4_about_175
  rw [if_neg q7] at h
  by_cases q8 : a2 = 8
  · rw [if_pos q8] at h
    refine lv_tableIn (off := 165) (tgt := 166) C.1 C.2.1 dX4_about_1 (by rw [q8]; decide) (by rw [q8]; decide) (by rw [q8]; decide) (by decide) ?_
    refine lv_aload_n C.1 C.2.1 dX4_about_166 rfl (lv_at hl 0 rfl) ?_
    refine lv_iload_n C.1 C.2.1 dX4_about_167 rfl (lv_at hl 1 rfl) ?_
    refine lv_iload_n C.1 C.2.1 dX4_about_168 rfl (lv_at hl 2 rfl) ?_
    refine lv_bipush (v := 7) C.1 C.2.1 dX4_about_169 (by decide) ?_
    refine lv_isub C.1 C.2.1 dX4_about_171 ?_
    obtain ⟨r11, hc, h⟩ := bS h
    refine r_V1 C hK hX hb hP hS hl.1 (kX4_setting (hT) hc) hT cl_4 wd_354 mo_X4_setting wd_355 wd_356 ⟨Nat.le_of_ble_eq_true rfl, Nat.le_of_ble_eq_true rfl⟩ ⟨Nat.le_of_ble_eq_true rfl, Nat.le_of_ble_eq_true rfl⟩ rfl (rest := []) rfl (Nat.le_of_ble_eq_true rfl) dX4_about_172 (fun H locs hP hS => ?_)
    have e := Option.some.inj h
    exact q_i C hlk hP hS hr (by rw [← e]) rfl dX4_about_175
  rw [if_neg q8] at h
  by_cases q9 : a2 = 9
  · rw [if_pos q9] at h
    refine lv_tableIn (off := 165) (tgt := 166) C.1 C.2.1 dX4_about_1 (by rw [q9]; decide) (by rw [q9]; decide) (by rw [q9]; decide) (by decide) ?_
    refine lv_aload_n C.1 C.2.1 dX4_about_166 rfl (lv_at hl 0 rfl) ?_
    refine lv_iload_n C.1 C.2.1 dX4_about_167 rfl (lv_at hl 1 rfl) ?_
    refine lv_iload_n C.1 C.2.1 dX4_about_168 rfl (lv_at hl 2 rfl) ?_
    refine lv_bipush (v := 7) C.1 C.2.1 dX4_about_169 (by decide) ?_
    refine lv_isub C.1 C.2.1 dX4_about_171 ?_
    obtain ⟨r12, hc, h⟩ := bS h
    refine r_V1 C hK hX hb hP hS hl.1 (kX4_setting (hT) hc) hT cl_4 wd_354 mo_X4_setting wd_355 wd_356 ⟨Nat.le_of_ble_eq_true rfl, Nat.le_of_ble_eq_true rfl⟩ ⟨Nat.le_of_ble_eq_true rfl, Nat.le_of_ble_eq_true rfl⟩ rfl (rest := []) rfl (Nat.le_of_ble_eq_true rfl) dX4_about_172 (fun H locs hP hS => ?_)
    have e := Option.some.inj h
    exact q_i C hlk hP hS hr (by rw [← e]) rfl dX4_about_175
  rw [if_neg q9] at h
  by_cases q10 : a2 = 10
  · rw [if_pos q10] at h
    refine lv_tableIn (off := 165) (tgt := 166) C.1 C.2.1 dX4_about_1 (by rw [q10]; decide) (by rw [q10]; decide) (by rw [q10]; decide) (by decide) ?_
    refine lv_aload_n C.1 C.2.1 dX4_about_166 rfl (lv_at hl 0 rfl) ?_
    refine lv_iload_n C.1 C.2.1 dX4_about_167 rfl (lv_at hl 1 rfl) ?_
    refine lv_iload_n C.1 C.2.1 dX4_about_168 rfl (lv_at hl 2 rfl) ?_
    refine lv_bipush (v := 7) C.1 C.2.1 dX4_about_169 (by decide) ?_
    refine lv_isub C.1 C.2.1 dX4_about_171 ?_
    obtain ⟨r13, hc, h⟩ := bS h
    refine r_V1 C hK hX hb hP hS hl.1 (kX4_setting (hT) hc) hT cl_4 wd_354 mo_X4_setting wd_355 wd_356 ⟨Nat.le_of_ble_eq_true rfl, Nat.le_of_ble_eq_true rfl⟩ ⟨Nat.le_of_ble_eq_true rfl, Nat.le_of_ble_eq_true rfl⟩ rfl (rest := []) rfl (Nat.le_of_ble_eq_true rfl) dX4_about_172 (fun H locs hP hS => ?_)
    have e := Option.some.inj h
    exact q_i C hlk hP hS hr (by rw [← e]) rfl dX4_about_175
  rw [if_neg q10] at h
  by_cases q11 : a2 = 11
  · rw [if_pos q11] at h
    refine lv_tableIn (off := 165) (tgt := 166) C.1 C.2.1 dX4_about_1 (by rw [q11]; decide) (by rw [q11]; decide) (by rw [q11]; decide) (by decide) ?_
    refine lv_aload_n C.1 C.2.1 dX4_about_166 rfl (lv_at hl 0 rfl) ?_
    refine lv_iload_n C.1 C.2.1 dX4_about_167 rfl (lv_at hl 1 rfl) ?_
    refine lv_iload_n C.1 C.2.1 dX4_about_168 rfl (lv_at hl 2 rfl) ?_
    refine lv_bipush (v := 7) C.1 C.2.1 dX4_about_169 (by decide) ?_
    refine lv_isub C.1 C.2.1 dX4_about_171 ?_
    obtain ⟨r14, hc, h⟩ := bS h
    refine r_V1 C hK hX hb hP hS hl.1 (kX4_setting (hT) hc) hT cl_4 wd_354 mo_X4_setting wd_355 wd_356 ⟨Nat.le_of_ble_eq_true rfl, Nat.le_of_ble_eq_true rfl⟩ ⟨Nat.le_of_ble_eq_true rfl, Nat.le_of_ble_eq_true rfl⟩ rfl (rest := []) rfl (Nat.le_of_ble_eq_true rfl) dX4_about_172 (fun H locs hP hS => ?_)
    have e := Option.some.inj h
    exact q_i C hlk hP hS hr (by rw [← e]) rfl dX4_about_175
  rw [if_neg q11] at h
  by_cases q12 : a2 = 12
  · rw [if_pos q12] at h
    refine lv_tableIn (off := 123) (tgt := 124) C.1 C.2.1 dX4_about_1 (by rw [q12]; decide) (by rw [q12]; decide) (by rw [q12]; decide) (by decide) ?_
    refine lv_aload_n C.1 C.2.1 dX4_about_124 rfl (lv_at hl 0 rfl) ?_
    refine lv_iload_n C.1 C.2.1 dX4_about_125 rfl (lv_at hl 1 rfl) ?_
    obtain ⟨r15, hc, h⟩ := bS h
    refine r_V1 C hK hX hb hP hS hl.1 (kX4_isOpen (hT) hc) hT cl_4 wd_342 mo_X4_isOpen wd_343 wd_344 ⟨Nat.le_of_ble_eq_true rfl, Nat.le_of_ble_eq_true rfl⟩ ⟨Nat.le_of_ble_eq_true rfl, Nat.le_of_ble_eq_true rfl⟩ rfl (rest := []) rfl (Nat.le_of_ble_eq_true rfl) dX4_about_126 (fun H locs hP hS => ?_)
    refine b_eq (tgt := 136) C dX4_about_129 (by decide) h (fun h => ?_) (fun h => ?_)
    · refine lv_iconst (v := 0) C.1 C.2.1 dX4_about_136 (by decide) ?_
      have e := Option.some.inj h
      exact q_i C hlk hP hS hr (by rw [← e]) rfl dX4_about_137
    · refine lv_iconst (v := 1) C.1 C.2.1 dX4_about_132 (by decide) ?_
      refine lv_goto (tgt := 137) C.1 C.2.1 dX4_about_133 (by decide) ?_
      have e := Option.some.inj h
      exact q_i C hlk hP hS hr (by rw [← e]) rfl dX4_about_137
  rw [if_neg q12] at h
  by_cases q13 : a2 = 13
  · rw [if_pos q13] at h
    refine lv_tableIn (off := 137) (tgt := 138) C.1 C.2.1 dX4_about_1 (by rw [q13]; decide) (by rw [q13]; decide) (by rw [q13]; decide) (by decide) ?_
    refine lv_aload_n C.1 C.2.1 dX4_about_138 rfl (lv_at hl 0 rfl) ?_
    refine lv_iload_n C.1 C.2.1 dX4_about_139 rfl (lv_at hl 1 rfl) ?_
    obtain ⟨r16, hc, h⟩ := bS h
    refine r_V1 C hK hX hb hP hS hl.1 (kX4_isOut (hT) hc) hT cl_4 wd_350 mo_X4_isOut wd_351 wd_352 ⟨Nat.le_of_ble_eq_true rfl, Nat.le_of_ble_eq_true rfl⟩ ⟨Nat.le_of_ble_eq_true rfl, Nat.le_of_ble_eq_true rfl⟩ rfl (rest := []) rfl (Nat.le_of_ble_eq_true rfl) dX4_about_140 (fun H locs hP hS => ?_)
    refine b_eq (tgt := 150) C dX4_about_143 (by decide) h (fun h => ?_) (fun h => ?_)
    · refine lv_iconst (v := 0) C.1 C.2.1 dX4_about_150 (by decide) ?_
      have e := Option.some.inj h
      exact q_i C hlk hP hS hr (by rw [← e]) rfl dX4_about_151
    · refine lv_iconst (v := 1) C.1 C.2.1 dX4_about_146 (by decide) ?_
      refine lv_goto (tgt := 151) C.1 C.2.1 dX4_about_147 (by decide) ?_
      have e := Option.some.inj h
      exact q_i C hlk hP hS hr (by rw [← e]) rfl dX4_about_151
  rw [if_neg q13] at h
  by_cases q14 : a2 = 14
  · rw [if_pos q14] at h
    refine lv_tableIn (off := 151) (tgt := 152) C.1 C.2.1 dX4_about_1 (by rw [q14]; decide) (by rw [q14]; decide) (by rw [q14]; decide) (by decide) ?_
    refine lv_aload_n C.1 C.2.1 dX4_about_152 rfl (lv_at hl 0 rfl) ?_
    refine lv_iload_n C.1 C.2.1 dX4_about_153 rfl (lv_at hl 1 rfl) ?_
    obtain ⟨r17, hc, h⟩ := bS h
    refine r_V1 C hK hX hb hP hS hl.1 (kX4_isShown (hT) hc) hT cl_4 wd_346 mo_X4_isShown wd_347 wd_348 ⟨Nat.le_of_ble_eq_true rfl, Nat.le_of_ble_eq_true rfl⟩ ⟨Nat.le_of_ble_eq_true rfl, Nat.le_of_ble_eq_true rfl⟩ rfl (rest := []) rfl (Nat.le_of_ble_eq_true rfl) dX4_about_154 (fun H locs hP hS => ?_)
    refine b_eq (tgt := 164) C dX4_about_157 (by decide) h (fun h => ?_) (fun h => ?_)
    · refine lv_iconst (v := 0) C.1 C.2.1 dX4_about_164 (by decide) ?_
      have e := Option.some.inj h
      exact q_i C hlk hP hS hr (by rw [← e]) rfl dX4_about_165
    · refine lv_iconst (v := 1) C.1 C.2.1 dX4_about_160 (by decide) ?_
      refine lv_goto (tgt := 165) C.1 C.2.1 dX4_about_161 (by decide) ?_
      have e := Option.some.inj h
      exact q_i C hlk hP hS hr (by rw [← e]) rfl dX4_about_165
  rw [if_neg q14] at h
  refine lv_tableOut (tgt := 166) C.1 C.2.1 dX4_about_1 (sw_out (x := a2) (lo := 0) (n := 15) (by decide) (fun j hj => match j, hj with | 0, _ => fun hx => q0 (hx.trans (by decide)) | 1, _ => fun hx => q1 (hx.trans (by decide)) | 2, _ => fun hx => q2 (hx.trans (by decide)) | 3, _ => fun hx => q3 (hx.trans (by decide)) | 4, _ => fun hx => q4 (hx.trans (by decide)) | 5, _ => fun hx => q5 (hx.trans (by decide)) | 6, _ => fun hx => q6 (hx.trans (by decide)) | 7, _ => fun hx => q7 (hx.trans (by decide)) | 8, _ => fun hx => q8 (hx.trans (by decide)) | 9, _ => fun hx => q9 (hx.trans (by decide)) | 10, _ => fun hx => q10 (hx.trans (by decide)) | 11, _ => fun hx => q11 (hx.trans (by decide)) | 12, _ => fun hx => q12 (hx.trans (by decide)) | 13, _ => fun hx => q13 (hx.trans (by decide)) | 14, _ => fun hx => q14 (hx.trans (by decide)) | (k + 15), hj => absurd hj (by omega))) (by decide) ?_
  refine lv_aload_n C.1 C.2.1 dX4_about_166 rfl (lv_at hl 0 rfl) ?_
  refine lv_iload_n C.1 C.2.1 dX4_about_167 rfl (lv_at hl 1 rfl) ?_
  refine lv_iload_n C.1 C.2.1 dX4_about_168 rfl (lv_at hl 2 rfl) ?_
  refine lv_bipush (v := 7) C.1 C.2.1 dX4_about_169 (by decide) ?_
  refine lv_isub C.1 C.2.1 dX4_about_171 ?_
  obtain ⟨r18, hc, h⟩ := bS h
  refine r_V1 C hK hX hb hP hS hl.1 (kX4_setting (hT) hc) hT cl_4 wd_354 mo_X4_setting wd_355 wd_356 ⟨Nat.le_of_ble_eq_true rfl, Nat.le_of_ble_eq_true rfl⟩ ⟨Nat.le_of_ble_eq_true rfl, Nat.le_of_ble_eq_true rfl⟩ rfl (rest := []) rfl (Nat.le_of_ble_eq_true rfl) dX4_about_172 (fun H locs hP hS => ?_)
  have e := Option.some.inj h
  exact q_i C hlk hP hS hr (by rw [← e]) rfl dX4_about_175
theorem dX4_addPart_0 : decode cX4_addPart 0 = .ok (.aload_n 0, 1) := by decide +kernel
theorem dX4_addPart_1 : decode cX4_addPart 1 = .ok (.iload_n 1, 1) := by decide +kernel
theorem dX4_addPart_2 : decode cX4_addPart 2 = .ok (.invokevirtual 127, 3) := by decide +kernel
theorem dX4_addPart_5 : decode cX4_addPart 5 = .ok (.getfield 124, 3) := by decide +kernel
theorem dX4_addPart_8 : decode cX4_addPart 8 = .ok (.ifCond .le 15, 3) := by decide +kernel
theorem dX4_addPart_11 : decode cX4_addPart 11 = .ok (.aload_n 2, 1) := by decide +kernel
theorem dX4_addPart_12 : decode cX4_addPart 12 = .ok (.aload_n 0, 1) := by decide +kernel
theorem dX4_addPart_13 : decode cX4_addPart 13 = .ok (.iload_n 1, 1) := by decide +kernel
theorem dX4_addPart_14 : decode cX4_addPart 14 = .ok (.invokevirtual 127, 3) := by decide +kernel
theorem dX4_addPart_17 : decode cX4_addPart 17 = .ok (.invokevirtual 140, 3) := by decide +kernel
theorem dX4_addPart_20 : decode cX4_addPart 20 = .ok (.goto 10, 3) := by decide +kernel
theorem dX4_addPart_23 : decode cX4_addPart 23 = .ok (.aload_n 0, 1) := by decide +kernel
theorem dX4_addPart_24 : decode cX4_addPart 24 = .ok (.iload_n 1, 1) := by decide +kernel
theorem dX4_addPart_25 : decode cX4_addPart 25 = .ok (.aload_n 2, 1) := by decide +kernel
theorem dX4_addPart_26 : decode cX4_addPart 26 = .ok (.iload_n 3, 1) := by decide +kernel
theorem dX4_addPart_27 : decode cX4_addPart 27 = .ok (.invokevirtual 133, 3) := by decide +kernel
theorem dX4_addPart_30 : decode cX4_addPart 30 = .ok (.return_, 1) := by decide +kernel
abbrev rmX4_addContent (d : Nat) : Room := { frames := 8 + 2 * d, cells := 0, slots := 0, locals := 250 + 49 * d }
abbrev rmX4_addPart (d : Nat) : Room := { frames := 9 + 2 * d, cells := 0, slots := 0, locals := 276 + 49 * d }
noncomputable def fX4_addPart (rec : Mm → Nat → Int32 → Nat → Int32 → Option Mm) (n : Nat) (Sh : Sp) (M : Mm) (a0 : Nat) (a1 : Int32) (a2 : Nat) (a3 : Int32) : Option Mm :=
  (fX4_labelOf n Sh M a0 a1).bind fun r1 =>
  gI Sh M r1 5 1 fun x2 =>
  if x2 ≤ 0 then
    (rec M a0 a1 a2 a3).bind fun r3 =>
    some r3
  else
    (fX4_labelOf n Sh M a0 a1).bind fun r4 =>
    chk (Sh a2 = some (.inl 5)) <|
    (fX5_join n Sh M a2 r4).bind fun r5 =>
    some r5
set_option maxRecDepth 100000 in
set_option maxHeartbeats 4000000 in
theorem kX4_addPart {l : Launch} {G : Gt} {n : Nat} {Sh : Sp} {d : Nat} {rec : Mm → Nat → Int32 → Nat → Int32 → Option Mm} (hrec : ∀ {M : Mm} {a0 : Nat} {a1 : Int32} {a2 : Nat} {a3 : Int32} {r : Mm}, Sh a0 = some (.inl 4) → rec M a0 a1 a2 a3 = some r → Ct l yX4_addContent cX4_addContent 7 none (rmX4_addContent d) G Sh M [.ref a0, .int a1, .ref a2, .int a3] none r) {M : Mm} {a0 : Nat} {a1 : Int32} {a2 : Nat} {a3 : Int32} (hT : Sh a0 = some (.inl 4)) {r : Mm} (h : fX4_addPart rec n Sh M a0 a1 a2 a3 = some r) : Ct l yX4_addPart cX4_addPart 4 none (rmX4_addPart d) G Sh M [.ref a0, .int a1, .ref a2, .int a3] none r := by
  refine Ct.of (by decide) (Nat.le_of_ble_eq_true rfl) ?_
  intro p e s m args below meth c ls C hK hX hP hS hb hlk hr hl
  replace hl : lv_has ls 4 [(0, .ref a0), (1, .int a1), (2, .ref a2), (3, .int a3)] := hl
  unfold fX4_addPart at h
  refine lv_aload_n C.1 C.2.1 dX4_addPart_0 rfl (lv_at hl 0 rfl) ?_
  refine lv_iload_n C.1 C.2.1 dX4_addPart_1 rfl (lv_at hl 1 rfl) ?_
  obtain ⟨r1, hc, h⟩ := bS h
  refine r_V1 C hK hX hb hP hS hl.1 (kX4_labelOf (hT) hc) hT cl_4 wd_490 mo_X4_labelOf wd_491 wd_492 (by constructor <;> first | exact Nat.le_of_ble_eq_true rfl | (simp only [rmX4_labelOf, rmX4_addContent, rmX4_addPart]; omega)) ⟨Nat.le_of_ble_eq_true rfl, Nat.le_of_ble_eq_true rfl⟩ rfl (rest := []) rfl (Nat.le_of_ble_eq_true rfl) dX4_addPart_2 (fun H locs hP hS => ?_)
  refine r_gIN C hK hP cl_5 (k := 1) (by decide) (hX.nw wd_128) rfl dX4_addPart_5 h (fun x2 h => ?_)
  refine b_le (tgt := 23) C dX4_addPart_8 (by decide) h (fun h => ?_) (fun h => ?_)
  · refine lv_aload_n C.1 C.2.1 dX4_addPart_23 rfl (lv_at hl 0 rfl) ?_
    refine lv_iload_n C.1 C.2.1 dX4_addPart_24 rfl (lv_at hl 1 rfl) ?_
    refine lv_aload_n C.1 C.2.1 dX4_addPart_25 rfl (lv_at hl 2 rfl) ?_
    refine lv_iload_n C.1 C.2.1 dX4_addPart_26 rfl (lv_at hl 3 rfl) ?_
    obtain ⟨r3, hc, h⟩ := bS h
    refine r_V0 C hK hX hb hP hS hl.1 (hrec (hT) hc) hT cl_4 wd_466 mo_X4_addContent wd_468 wd_6 (by constructor <;> first | exact Nat.le_of_ble_eq_true rfl | (simp only [rmX4_addContent, rmX4_addContent, rmX4_addPart]; omega)) ⟨Nat.le_of_ble_eq_true rfl, Nat.le_of_ble_eq_true rfl⟩ rfl (rest := []) rfl (Nat.le_of_ble_eq_true rfl) dX4_addPart_27 (fun H locs hP hS => ?_)
    have e := Option.some.inj h
    exact q_v C hlk hP hS hr rfl e.symm dX4_addPart_30
  · refine lv_aload_n C.1 C.2.1 dX4_addPart_11 rfl (lv_at hl 2 rfl) ?_
    refine lv_aload_n C.1 C.2.1 dX4_addPart_12 rfl (lv_at hl 0 rfl) ?_
    refine lv_iload_n C.1 C.2.1 dX4_addPart_13 rfl (lv_at hl 1 rfl) ?_
    obtain ⟨r4, hc, h⟩ := bS h
    refine r_V1 C hK hX hb hP hS hl.1 (kX4_labelOf (hT) hc) hT cl_4 wd_490 mo_X4_labelOf wd_491 wd_492 (by constructor <;> first | exact Nat.le_of_ble_eq_true rfl | (simp only [rmX4_labelOf, rmX4_addContent, rmX4_addPart]; omega)) ⟨Nat.le_of_ble_eq_true rfl, Nat.le_of_ble_eq_true rfl⟩ rfl (rest := [.ref a2]) rfl (Nat.le_of_ble_eq_true rfl) dX4_addPart_14 (fun H locs hP hS => ?_)
    obtain ⟨hs, h⟩ := chk_some h
    obtain ⟨r5, hc, h⟩ := bS h
    refine r_V0 C hK hX hb hP hS hl.1 (kX5_join (hs) hc) hs cl_5 wd_474 mo_X5_join wd_475 wd_476 (by constructor <;> first | exact Nat.le_of_ble_eq_true rfl | (simp only [rmX5_join, rmX4_addContent, rmX4_addPart]; omega)) ⟨Nat.le_of_ble_eq_true rfl, Nat.le_of_ble_eq_true rfl⟩ rfl (rest := []) rfl (Nat.le_of_ble_eq_true rfl) dX4_addPart_17 (fun H locs hP hS => ?_)
    refine lv_goto (tgt := 30) C.1 C.2.1 dX4_addPart_20 (by decide) ?_
    have e := Option.some.inj h
    exact q_v C hlk hP hS hr rfl e.symm dX4_addPart_30
theorem dX4_addContent_0 : decode cX4_addContent 0 = .ok (.aload_n 0, 1) := by decide +kernel
theorem dX4_addContent_1 : decode cX4_addContent 1 = .ok (.iload_n 1, 1) := by decide +kernel
theorem dX4_addContent_2 : decode cX4_addContent 2 = .ok (.invokevirtual 108, 3) := by decide +kernel
theorem dX4_addContent_5 : decode cX4_addContent 5 = .ok (.istore 4, 2) := by decide +kernel
theorem dX4_addContent_7 : decode cX4_addContent 7 = .ok (.iload_n 3, 1) := by decide +kernel
theorem dX4_addContent_8 : decode cX4_addContent 8 = .ok (.bipush 24, 2) := by decide +kernel
theorem dX4_addContent_10 : decode cX4_addContent 10 = .ok (.if_icmp .gt 9, 3) := by decide +kernel
theorem dX4_addContent_13 : decode cX4_addContent 13 = .ok (.iload 4, 2) := by decide +kernel
theorem dX4_addContent_15 : decode cX4_addContent 15 = .ok (.iconst 4, 1) := by decide +kernel
theorem dX4_addContent_16 : decode cX4_addContent 16 = .ok (.if_icmp .ne 4, 3) := by decide +kernel
theorem dX4_addContent_19 : decode cX4_addContent 19 = .ok (.return_, 1) := by decide +kernel
theorem dX4_addContent_20 : decode cX4_addContent 20 = .ok (.iload 4, 2) := by decide +kernel
theorem dX4_addContent_22 : decode cX4_addContent 22 = .ok (.iconst 1, 1) := by decide +kernel
theorem dX4_addContent_23 : decode cX4_addContent 23 = .ok (.if_icmp .eq 9, 3) := by decide +kernel
theorem dX4_addContent_26 : decode cX4_addContent 26 = .ok (.iload 4, 2) := by decide +kernel
theorem dX4_addContent_28 : decode cX4_addContent 28 = .ok (.iconst 5, 1) := by decide +kernel
theorem dX4_addContent_29 : decode cX4_addContent 29 = .ok (.if_icmp .ne 13, 3) := by decide +kernel
theorem dX4_addContent_32 : decode cX4_addContent 32 = .ok (.aload_n 2, 1) := by decide +kernel
theorem dX4_addContent_33 : decode cX4_addContent 33 = .ok (.aload_n 0, 1) := by decide +kernel
theorem dX4_addContent_34 : decode cX4_addContent 34 = .ok (.iload_n 1, 1) := by decide +kernel
theorem dX4_addContent_35 : decode cX4_addContent 35 = .ok (.invokevirtual 120, 3) := by decide +kernel
theorem dX4_addContent_38 : decode cX4_addContent 38 = .ok (.invokevirtual 140, 3) := by decide +kernel
theorem dX4_addContent_41 : decode cX4_addContent 41 = .ok (.return_, 1) := by decide +kernel
theorem dX4_addContent_42 : decode cX4_addContent 42 = .ok (.iconst 0, 1) := by decide +kernel
theorem dX4_addContent_43 : decode cX4_addContent 43 = .ok (.istore 5, 2) := by decide +kernel
theorem dX4_addContent_45 : decode cX4_addContent 45 = .ok (.iload 5, 2) := by decide +kernel
theorem dX4_addContent_47 : decode cX4_addContent 47 = .ok (.aload_n 0, 1) := by decide +kernel
theorem dX4_addContent_48 : decode cX4_addContent 48 = .ok (.iload_n 1, 1) := by decide +kernel
theorem dX4_addContent_49 : decode cX4_addContent 49 = .ok (.invokevirtual 81, 3) := by decide +kernel
theorem dX4_addContent_52 : decode cX4_addContent 52 = .ok (.if_icmp .ge 37, 3) := by decide +kernel
theorem dX4_addContent_55 : decode cX4_addContent 55 = .ok (.aload_n 0, 1) := by decide +kernel
theorem dX4_addContent_56 : decode cX4_addContent 56 = .ok (.iload_n 1, 1) := by decide +kernel
theorem dX4_addContent_57 : decode cX4_addContent 57 = .ok (.iload 5, 2) := by decide +kernel
theorem dX4_addContent_59 : decode cX4_addContent 59 = .ok (.invokevirtual 84, 3) := by decide +kernel
theorem dX4_addContent_62 : decode cX4_addContent 62 = .ok (.istore 6, 2) := by decide +kernel
theorem dX4_addContent_64 : decode cX4_addContent 64 = .ok (.aload_n 0, 1) := by decide +kernel
theorem dX4_addContent_65 : decode cX4_addContent 65 = .ok (.iload 6, 2) := by decide +kernel
theorem dX4_addContent_67 : decode cX4_addContent 67 = .ok (.invokevirtual 114, 3) := by decide +kernel
theorem dX4_addContent_70 : decode cX4_addContent 70 = .ok (.ifCond .ne 13, 3) := by decide +kernel
theorem dX4_addContent_73 : decode cX4_addContent 73 = .ok (.aload_n 0, 1) := by decide +kernel
theorem dX4_addContent_74 : decode cX4_addContent 74 = .ok (.iload 6, 2) := by decide +kernel
theorem dX4_addContent_76 : decode cX4_addContent 76 = .ok (.aload_n 2, 1) := by decide +kernel
theorem dX4_addContent_77 : decode cX4_addContent 77 = .ok (.iload_n 3, 1) := by decide +kernel
theorem dX4_addContent_78 : decode cX4_addContent 78 = .ok (.iconst 1, 1) := by decide +kernel
theorem dX4_addContent_79 : decode cX4_addContent 79 = .ok (.iadd, 1) := by decide +kernel
theorem dX4_addContent_80 : decode cX4_addContent 80 = .ok (.invokevirtual 137, 3) := by decide +kernel
theorem dX4_addContent_83 : decode cX4_addContent 83 = .ok (.iinc 5 1, 3) := by decide +kernel
theorem dX4_addContent_86 : decode cX4_addContent 86 = .ok (.goto (-41), 3) := by decide +kernel
theorem dX4_addContent_89 : decode cX4_addContent 89 = .ok (.return_, 1) := by decide +kernel
noncomputable def fX4_addContent_83 (rec : Mm → Nat → Int32 → Nat → Int32 → Option Mm) (n : Nat) (Sh : Sp) (a0 : Nat) (a1 : Int32) (a2 : Nat) (a3 : Int32) (M : Mm) (v5 : Int32) : Option ((Int32 × Mm) ⊕ Mm) :=
  some (Sum.inl ((v5 + 1), M))
noncomputable def fX4_addContent_45b (rec : Mm → Nat → Int32 → Nat → Int32 → Option Mm) (n : Nat) (Sh : Sp) (a0 : Nat) (a1 : Int32) (a2 : Nat) (a3 : Int32) (M : Mm) (v5 : Int32) : Option ((Int32 × Mm) ⊕ Mm) :=
  (fX4_kidCount n Sh M a0 a1).bind fun r1 =>
  if v5 < r1 then
    (fX4_kidAt n Sh M a0 a1 v5).bind fun r2 =>
    (fX4_isOut n Sh M a0 r2).bind fun r3 =>
    if r3 = 0 then
      (fX4_addPart rec n Sh M a0 r2 a2 (a3 + 1)).bind fun r4 =>
      fX4_addContent_83 rec n Sh a0 a1 a2 a3 r4 v5
    else
      fX4_addContent_83 rec n Sh a0 a1 a2 a3 M v5
  else
    some (Sum.inr M)
noncomputable def fX4_addContent_45 (rec : Mm → Nat → Int32 → Nat → Int32 → Option Mm) (n : Nat) (Sh : Sp) (a0 : Nat) (a1 : Int32) (a2 : Nat) (a3 : Int32) (M : Mm) (v5 : Int32) : Option Mm :=
  iter n (fun s => fX4_addContent_45b rec n Sh a0 a1 a2 a3 s.2 s.1) (v5, M)
noncomputable def fX4_addContent_32 (rec : Mm → Nat → Int32 → Nat → Int32 → Option Mm) (n : Nat) (Sh : Sp) (a0 : Nat) (a1 : Int32) (a2 : Nat) (a3 : Int32) (M : Mm) : Option Mm :=
  (fX4_textOf n Sh M a0 a1).bind fun r5 =>
  chk (Sh a2 = some (.inl 5)) <|
  (fX5_join n Sh M a2 r5).bind fun r6 =>
  some r6
noncomputable def fX4_addContent_body (rec : Mm → Nat → Int32 → Nat → Int32 → Option Mm) (n : Nat) (Sh : Sp) (M : Mm) (a0 : Nat) (a1 : Int32) (a2 : Nat) (a3 : Int32) : Option Mm :=
  (fX4_roleOf n Sh M a0 a1).bind fun r7 =>
  if a3 ≤ 24 then
    if r7 = 4 then
      some M
    else
      if r7 = 1 then
        fX4_addContent_32 rec n Sh a0 a1 a2 a3 M
      else
        if r7 = 5 then
          fX4_addContent_32 rec n Sh a0 a1 a2 a3 M
        else
          fX4_addContent_45 rec n Sh a0 a1 a2 a3 M 0
  else
    some M
set_option maxRecDepth 100000 in
set_option maxHeartbeats 4000000 in
theorem kX4_addContent_body {l : Launch} {G : Gt} {n : Nat} {Sh : Sp} {d : Nat} {rec : Mm → Nat → Int32 → Nat → Int32 → Option Mm} (hrec : ∀ {M : Mm} {a0 : Nat} {a1 : Int32} {a2 : Nat} {a3 : Int32} {r : Mm}, Sh a0 = some (.inl 4) → rec M a0 a1 a2 a3 = some r → Ct l yX4_addContent cX4_addContent 7 none (rmX4_addContent d) G Sh M [.ref a0, .int a1, .ref a2, .int a3] none r) {M : Mm} {a0 : Nat} {a1 : Int32} {a2 : Nat} {a3 : Int32} (hT : Sh a0 = some (.inl 4)) {r : Mm} (h : fX4_addContent_body rec n Sh M a0 a1 a2 a3 = some r) : Ct l yX4_addContent cX4_addContent 7 none (rmX4_addContent (d + 1)) G Sh M [.ref a0, .int a1, .ref a2, .int a3] none r := by
  refine Ct.of (by decide) (Nat.le_of_ble_eq_true rfl) ?_
  intro p e s m args below meth c ls C hK hX hP hS hb hlk hr hl
  replace hl : lv_has ls 7 [(0, .ref a0), (1, .int a1), (2, .ref a2), (3, .int a3)] := hl
  have J45 : ∀ (k : Nat) (v5 : Int32) (M : Mm) (H : Heap) (locs : List Loc) (ls : Array Slot), HM G Sh M H → SS G s s.heap.size H locs → lv_has ls 7 [(0, .ref a0), (1, .int a1), (2, .ref a2), (3, .int a3), (5, .int v5)] → iter k (fun s => fX4_addContent_45b rec n Sh a0 a1 a2 a3 s.2 s.1) (v5, M) = some r → W p l e (rmX4_addContent (d + 1)) s m args below meth c H locs 0 0 (MQ below (QG G Sh r none) args s (rmX4_addContent (d + 1)).cells (rmX4_addContent (d + 1)).slots (AA G)) (F0 m 45 ls []) := by
    intro k
    induction k with
    | zero => intro v5 M H locs ls hP hS hl h; exact (iter_0 h).elim
    | succ k ih1 =>
      intro v5 M H locs ls hP hS hl h
      obtain ⟨z1, h, hz1⟩ := iter_some h
      replace h : fX4_addContent_45b rec n Sh a0 a1 a2 a3 M v5 = some z1 := h
      have J83 : ∀ (M : Mm) (v5 : Int32) (H : Heap) (locs : List Loc) (ls : Array Slot), HM G Sh M H → SS G s s.heap.size H locs → lv_has ls 7 [(0, .ref a0), (1, .int a1), (2, .ref a2), (3, .int a3), (5, .int v5)] → fX4_addContent_83 rec n Sh a0 a1 a2 a3 M v5 = some z1 → W p l e (rmX4_addContent (d + 1)) s m args below meth c H locs 0 0 (MQ below (QG G Sh r none) args s (rmX4_addContent (d + 1)).cells (rmX4_addContent (d + 1)).slots (AA G)) (F0 m 83 ls []) := by
        intro M v5 H locs ls hP hS hl h
        unfold fX4_addContent_83 at h
        refine lv_iinc (v := (v5 + 1)) (lv' := [(5, .int (v5 + 1)), (0, .ref a0), (1, .int a1), (2, .ref a2), (3, .int a3)]) C.1 C.2.1 dX4_addContent_83 hl (k := 4) rfl rfl (by decide) rfl (fun ls hl => ?_)
        refine lv_goto (tgt := 45) C.1 C.2.1 dX4_addContent_86 (by decide) ?_
        have e := Option.some.inj h
        rw [← e] at hz1
        exact ih1 ((v5 + 1)) M _ _ _ hP hS (lv_sub hl [1, 2, 3, 4, 0] rfl) (itK_inl hz1)
      unfold fX4_addContent_45b at h
      refine lv_iload C.1 C.2.1 dX4_addContent_45 (lv_at hl 4 rfl) ?_
      refine lv_aload_n C.1 C.2.1 dX4_addContent_47 rfl (lv_at hl 0 rfl) ?_
      refine lv_iload_n C.1 C.2.1 dX4_addContent_48 rfl (lv_at hl 1 rfl) ?_
      obtain ⟨r1, hc, h⟩ := bS h
      refine r_V1 C hK hX hb hP hS hl.1 (kX4_kidCount (hT) hc) hT cl_4 wd_321 mo_X4_kidCount wd_322 wd_323 (by constructor <;> first | exact Nat.le_of_ble_eq_true rfl | (simp only [rmX4_kidCount, rmX4_addContent, rmX4_addPart]; omega)) ⟨Nat.le_of_ble_eq_true rfl, Nat.le_of_ble_eq_true rfl⟩ rfl (rest := [.int v5]) rfl (Nat.le_of_ble_eq_true rfl) dX4_addContent_49 (fun H locs hP hS => ?_)
      refine b_ige (tgt := 89) C dX4_addContent_52 (by decide) h (fun h => ?_) (fun h => ?_)
      · refine lv_aload_n C.1 C.2.1 dX4_addContent_55 rfl (lv_at hl 0 rfl) ?_
        refine lv_iload_n C.1 C.2.1 dX4_addContent_56 rfl (lv_at hl 1 rfl) ?_
        refine lv_iload C.1 C.2.1 dX4_addContent_57 (lv_at hl 4 rfl) ?_
        obtain ⟨r2, hc, h⟩ := bS h
        refine r_V1 C hK hX hb hP hS hl.1 (kX4_kidAt (hT) hc) hT cl_4 wd_325 mo_X4_kidAt wd_326 wd_327 (by constructor <;> first | exact Nat.le_of_ble_eq_true rfl | (simp only [rmX4_kidAt, rmX4_addContent, rmX4_addPart]; omega)) ⟨Nat.le_of_ble_eq_true rfl, Nat.le_of_ble_eq_true rfl⟩ rfl (rest := []) rfl (Nat.le_of_ble_eq_true rfl) dX4_addContent_59 (fun H locs hP hS => ?_)
        refine lv_istore (lv' := [(6, .int r2), (0, .ref a0), (1, .int a1), (2, .ref a2), (3, .int a3), (5, .int v5)]) C.1 C.2.1 dX4_addContent_62 hl (by decide) rfl (fun ls hl => ?_)
        refine lv_aload_n C.1 C.2.1 dX4_addContent_64 rfl (lv_at hl 1 rfl) ?_
        refine lv_iload C.1 C.2.1 dX4_addContent_65 (lv_at hl 0 rfl) ?_
        obtain ⟨r3, hc, h⟩ := bS h
        refine r_V1 C hK hX hb hP hS hl.1 (kX4_isOut (hT) hc) hT cl_4 wd_350 mo_X4_isOut wd_351 wd_352 (by constructor <;> first | exact Nat.le_of_ble_eq_true rfl | (simp only [rmX4_isOut, rmX4_addContent, rmX4_addPart]; omega)) ⟨Nat.le_of_ble_eq_true rfl, Nat.le_of_ble_eq_true rfl⟩ rfl (rest := []) rfl (Nat.le_of_ble_eq_true rfl) dX4_addContent_67 (fun H locs hP hS => ?_)
        refine b_ne (tgt := 83) C dX4_addContent_70 (by decide) h (fun h => ?_) (fun h => ?_)
        · refine lv_aload_n C.1 C.2.1 dX4_addContent_73 rfl (lv_at hl 1 rfl) ?_
          refine lv_iload C.1 C.2.1 dX4_addContent_74 (lv_at hl 0 rfl) ?_
          refine lv_aload_n C.1 C.2.1 dX4_addContent_76 rfl (lv_at hl 3 rfl) ?_
          refine lv_iload_n C.1 C.2.1 dX4_addContent_77 rfl (lv_at hl 4 rfl) ?_
          refine lv_iconst (v := 1) C.1 C.2.1 dX4_addContent_78 (by decide) ?_
          refine lv_iadd C.1 C.2.1 dX4_addContent_79 ?_
          obtain ⟨r4, hc, h⟩ := bS h
          refine r_V0 C hK hX hb hP hS hl.1 (kX4_addPart hrec (hT) hc) hT cl_4 wd_486 mo_X4_addPart wd_488 wd_7 (by constructor <;> first | exact Nat.le_of_ble_eq_true rfl | (simp only [rmX4_addPart, rmX4_addContent, rmX4_addPart]; omega)) ⟨Nat.le_of_ble_eq_true rfl, Nat.le_of_ble_eq_true rfl⟩ rfl (rest := []) rfl (Nat.le_of_ble_eq_true rfl) dX4_addContent_80 (fun H locs hP hS => ?_)
          exact J83 (r4) (v5) _ _ _ hP hS (lv_sub hl [1, 2, 3, 4, 5] rfl) h
        · exact J83 (M) (v5) _ _ _ hP hS (lv_sub hl [1, 2, 3, 4, 5] rfl) h
      · have e := Option.some.inj h
        rw [← e] at hz1
        replace e := itK_inr hz1
        exact q_v C hlk hP hS hr rfl e.symm dX4_addContent_89
  have J32 : ∀ (M : Mm) (H : Heap) (locs : List Loc) (ls : Array Slot), HM G Sh M H → SS G s s.heap.size H locs → lv_has ls 7 [(0, .ref a0), (1, .int a1), (2, .ref a2), (3, .int a3)] → fX4_addContent_32 rec n Sh a0 a1 a2 a3 M = some r → W p l e (rmX4_addContent (d + 1)) s m args below meth c H locs 0 0 (MQ below (QG G Sh r none) args s (rmX4_addContent (d + 1)).cells (rmX4_addContent (d + 1)).slots (AA G)) (F0 m 32 ls []) := by
    intro M H locs ls hP hS hl h
    unfold fX4_addContent_32 at h
    refine lv_aload_n C.1 C.2.1 dX4_addContent_32 rfl (lv_at hl 2 rfl) ?_
    refine lv_aload_n C.1 C.2.1 dX4_addContent_33 rfl (lv_at hl 0 rfl) ?_
    refine lv_iload_n C.1 C.2.1 dX4_addContent_34 rfl (lv_at hl 1 rfl) ?_
    obtain ⟨r5, hc, h⟩ := bS h
    refine r_V1 C hK hX hb hP hS hl.1 (kX4_textOf (hT) hc) hT cl_4 wd_470 mo_X4_textOf wd_471 wd_472 (by constructor <;> first | exact Nat.le_of_ble_eq_true rfl | (simp only [rmX4_textOf, rmX4_addContent, rmX4_addPart]; omega)) ⟨Nat.le_of_ble_eq_true rfl, Nat.le_of_ble_eq_true rfl⟩ rfl (rest := [.ref a2]) rfl (Nat.le_of_ble_eq_true rfl) dX4_addContent_35 (fun H locs hP hS => ?_)
    obtain ⟨hs, h⟩ := chk_some h
    obtain ⟨r6, hc, h⟩ := bS h
    refine r_V0 C hK hX hb hP hS hl.1 (kX5_join (hs) hc) hs cl_5 wd_474 mo_X5_join wd_475 wd_476 (by constructor <;> first | exact Nat.le_of_ble_eq_true rfl | (simp only [rmX5_join, rmX4_addContent, rmX4_addPart]; omega)) ⟨Nat.le_of_ble_eq_true rfl, Nat.le_of_ble_eq_true rfl⟩ rfl (rest := []) rfl (Nat.le_of_ble_eq_true rfl) dX4_addContent_38 (fun H locs hP hS => ?_)
    have e := Option.some.inj h
    exact q_v C hlk hP hS hr rfl e.symm dX4_addContent_41
  unfold fX4_addContent_body at h
  refine lv_aload_n C.1 C.2.1 dX4_addContent_0 rfl (lv_at hl 0 rfl) ?_
  refine lv_iload_n C.1 C.2.1 dX4_addContent_1 rfl (lv_at hl 1 rfl) ?_
  obtain ⟨r7, hc, h⟩ := bS h
  refine r_V1 C hK hX hb hP hS hl.1 (kX4_roleOf (hT) hc) hT cl_4 wd_358 mo_X4_roleOf wd_359 wd_360 (by constructor <;> first | exact Nat.le_of_ble_eq_true rfl | (simp only [rmX4_roleOf, rmX4_addContent, rmX4_addPart]; omega)) ⟨Nat.le_of_ble_eq_true rfl, Nat.le_of_ble_eq_true rfl⟩ rfl (rest := []) rfl (Nat.le_of_ble_eq_true rfl) dX4_addContent_2 (fun H locs hP hS => ?_)
  refine lv_istore (lv' := [(4, .int r7), (0, .ref a0), (1, .int a1), (2, .ref a2), (3, .int a3)]) C.1 C.2.1 dX4_addContent_5 hl (by decide) rfl (fun ls hl => ?_)
  refine lv_iload_n C.1 C.2.1 dX4_addContent_7 rfl (lv_at hl 4 rfl) ?_
  refine lv_bipush (v := 24) C.1 C.2.1 dX4_addContent_8 (by decide) ?_
  refine b_igt (tgt := 19) C dX4_addContent_10 (by decide) h (fun h => ?_) (fun h => ?_)
  · refine lv_iload C.1 C.2.1 dX4_addContent_13 (lv_at hl 0 rfl) ?_
    refine lv_iconst (v := 4) C.1 C.2.1 dX4_addContent_15 (by decide) ?_
    refine b_ine (tgt := 20) C dX4_addContent_16 (by decide) h (fun h => ?_) (fun h => ?_)
    · have e := Option.some.inj h
      exact q_v C hlk hP hS hr rfl e.symm dX4_addContent_19
    · refine lv_iload C.1 C.2.1 dX4_addContent_20 (lv_at hl 0 rfl) ?_
      refine lv_iconst (v := 1) C.1 C.2.1 dX4_addContent_22 (by decide) ?_
      refine b_ieq (tgt := 32) C dX4_addContent_23 (by decide) h (fun h => ?_) (fun h => ?_)
      · exact J32 (M) _ _ _ hP hS (lv_sub hl [1, 2, 3, 4] rfl) h
      · refine lv_iload C.1 C.2.1 dX4_addContent_26 (lv_at hl 0 rfl) ?_
        refine lv_iconst (v := 5) C.1 C.2.1 dX4_addContent_28 (by decide) ?_
        refine b_ine (tgt := 42) C dX4_addContent_29 (by decide) h (fun h => ?_) (fun h => ?_)
        · exact J32 (M) _ _ _ hP hS (lv_sub hl [1, 2, 3, 4] rfl) h
        · refine lv_iconst (v := 0) C.1 C.2.1 dX4_addContent_42 (by decide) ?_
          refine lv_istore (lv' := [(5, .int 0), (4, .int r7), (0, .ref a0), (1, .int a1), (2, .ref a2), (3, .int a3)]) C.1 C.2.1 dX4_addContent_43 hl (by decide) rfl (fun ls hl => ?_)
          exact J45  n (0) M _ _ _ hP hS (lv_sub hl [2, 3, 4, 5, 0] rfl) h
  · have e := Option.some.inj h
    exact q_v C hlk hP hS hr rfl e.symm dX4_addContent_19
noncomputable def fX4_addContent (n : Nat) : Nat → Sp → Mm → Nat → Int32 → Nat → Int32 → Option Mm
  | 0 => fun _ _ _ _ _ _ => none
  | d + 1 => fun Sh M a0 a1 a2 a3 => fX4_addContent_body (fX4_addContent n d Sh) n Sh M a0 a1 a2 a3
theorem kX4_addContent {l : Launch} {G : Gt} {n : Nat} {Sh : Sp} : ∀ (d : Nat) {M : Mm} {a0 : Nat} {a1 : Int32} {a2 : Nat} {a3 : Int32} (hT : Sh a0 = some (.inl 4)) {r : Mm} (h : fX4_addContent n d Sh M a0 a1 a2 a3 = some r), Ct l yX4_addContent cX4_addContent 7 none (rmX4_addContent d) G Sh M [.ref a0, .int a1, .ref a2, .int a3] none r := by
  intro d
  induction d with
  | zero => intro M a0 a1 a2 a3 hT r h; cases h
  | succ d ih => intro M a0 a1 a2 a3 hT r h; exact kX4_addContent_body (fun hT h => ih hT h) hT h

theorem dX4_joinContent_0 : decode cX4_joinContent 0 = .ok (.aload_n 0, 1) := by decide +kernel
theorem dX4_joinContent_1 : decode cX4_joinContent 1 = .ok (.iload_n 1, 1) := by decide +kernel
theorem dX4_joinContent_2 : decode cX4_joinContent 2 = .ok (.aload_n 2, 1) := by decide +kernel
theorem dX4_joinContent_3 : decode cX4_joinContent 3 = .ok (.iconst 0, 1) := by decide +kernel
theorem dX4_joinContent_4 : decode cX4_joinContent 4 = .ok (.invokevirtual 133, 3) := by decide +kernel
theorem dX4_joinContent_7 : decode cX4_joinContent 7 = .ok (.return_, 1) := by decide +kernel
abbrev rmX4_joinContent : Room := { frames := 63, cells := 0, slots := 0, locals := 1599 }
noncomputable def fX4_joinContent (n : Nat) (Sh : Sp) (M : Mm) (a0 : Nat) (a1 : Int32) (a2 : Nat) : Option Mm :=
  (fX4_addContent n 27 Sh M a0 a1 a2 0).bind fun r1 =>
  some r1
set_option maxRecDepth 100000 in
set_option maxHeartbeats 4000000 in
theorem kX4_joinContent {l : Launch} {G : Gt} {n : Nat} {Sh : Sp} {M : Mm} {a0 : Nat} {a1 : Int32} {a2 : Nat} (hT : Sh a0 = some (.inl 4)) {r : Mm} (h : fX4_joinContent n Sh M a0 a1 a2 = some r) : Ct l yX4_joinContent cX4_joinContent 3 none rmX4_joinContent G Sh M [.ref a0, .int a1, .ref a2] none r := by
  refine Ct.of (by decide) (Nat.le_of_ble_eq_true rfl) ?_
  intro p e s m args below meth c ls C hK hX hP hS hb hlk hr hl
  replace hl : lv_has ls 3 [(0, .ref a0), (1, .int a1), (2, .ref a2)] := hl
  unfold fX4_joinContent at h
  refine lv_aload_n C.1 C.2.1 dX4_joinContent_0 rfl (lv_at hl 0 rfl) ?_
  refine lv_iload_n C.1 C.2.1 dX4_joinContent_1 rfl (lv_at hl 1 rfl) ?_
  refine lv_aload_n C.1 C.2.1 dX4_joinContent_2 rfl (lv_at hl 2 rfl) ?_
  refine lv_iconst (v := 0) C.1 C.2.1 dX4_joinContent_3 (by decide) ?_
  obtain ⟨r1, hc, h⟩ := bS h
  refine r_V0 C hK hX hb hP hS hl.1 (kX4_addContent 27 (hT) hc) hT cl_4 wd_466 mo_X4_addContent wd_468 wd_6 ⟨Nat.le_of_ble_eq_true rfl, Nat.le_of_ble_eq_true rfl⟩ ⟨Nat.le_of_ble_eq_true rfl, Nat.le_of_ble_eq_true rfl⟩ rfl (rest := []) rfl (Nat.le_of_ble_eq_true rfl) dX4_joinContent_4 (fun H locs hP hS => ?_)
  have e := Option.some.inj h
  exact q_v C hlk hP hS hr rfl e.symm dX4_joinContent_7
theorem dX4_joinPart_0 : decode cX4_joinPart 0 = .ok (.aload_n 0, 1) := by decide +kernel
theorem dX4_joinPart_1 : decode cX4_joinPart 1 = .ok (.iload_n 1, 1) := by decide +kernel
theorem dX4_joinPart_2 : decode cX4_joinPart 2 = .ok (.aload_n 2, 1) := by decide +kernel
theorem dX4_joinPart_3 : decode cX4_joinPart 3 = .ok (.iconst 0, 1) := by decide +kernel
theorem dX4_joinPart_4 : decode cX4_joinPart 4 = .ok (.invokevirtual 137, 3) := by decide +kernel
theorem dX4_joinPart_7 : decode cX4_joinPart 7 = .ok (.return_, 1) := by decide +kernel
abbrev rmX4_joinPart : Room := { frames := 64, cells := 0, slots := 0, locals := 1622 }
noncomputable def fX4_joinPart (n : Nat) (Sh : Sp) (M : Mm) (a0 : Nat) (a1 : Int32) (a2 : Nat) : Option Mm :=
  (fX4_addPart (fX4_addContent n 27 Sh) n Sh M a0 a1 a2 0).bind fun r1 =>
  some r1
set_option maxRecDepth 100000 in
set_option maxHeartbeats 4000000 in
theorem kX4_joinPart {l : Launch} {G : Gt} {n : Nat} {Sh : Sp} {M : Mm} {a0 : Nat} {a1 : Int32} {a2 : Nat} (hT : Sh a0 = some (.inl 4)) {r : Mm} (h : fX4_joinPart n Sh M a0 a1 a2 = some r) : Ct l yX4_joinPart cX4_joinPart 3 none rmX4_joinPart G Sh M [.ref a0, .int a1, .ref a2] none r := by
  refine Ct.of (by decide) (Nat.le_of_ble_eq_true rfl) ?_
  intro p e s m args below meth c ls C hK hX hP hS hb hlk hr hl
  replace hl : lv_has ls 3 [(0, .ref a0), (1, .int a1), (2, .ref a2)] := hl
  unfold fX4_joinPart at h
  refine lv_aload_n C.1 C.2.1 dX4_joinPart_0 rfl (lv_at hl 0 rfl) ?_
  refine lv_iload_n C.1 C.2.1 dX4_joinPart_1 rfl (lv_at hl 1 rfl) ?_
  refine lv_aload_n C.1 C.2.1 dX4_joinPart_2 rfl (lv_at hl 2 rfl) ?_
  refine lv_iconst (v := 0) C.1 C.2.1 dX4_joinPart_3 (by decide) ?_
  obtain ⟨r1, hc, h⟩ := bS h
  refine r_V0 C hK hX hb hP hS hl.1 (kX4_addPart (d := 27) (fun hT h => kX4_addContent 27 hT h) (hT) hc) hT cl_4 wd_486 mo_X4_addPart wd_488 wd_7 ⟨Nat.le_of_ble_eq_true rfl, Nat.le_of_ble_eq_true rfl⟩ ⟨Nat.le_of_ble_eq_true rfl, Nat.le_of_ble_eq_true rfl⟩ rfl (rest := []) rfl (Nat.le_of_ble_eq_true rfl) dX4_joinPart_4 (fun H locs hP hS => ?_)
  have e := Option.some.inj h
  exact q_v C hlk hP hS hr rfl e.symm dX4_joinPart_7
theorem dX4_isNamedByContent_0 : decode cX4_isNamedByContent 0 = .ok (.iload_n 0, 1) := by decide +kernel
theorem dX4_isNamedByContent_1 : decode cX4_isNamedByContent 1 = .ok (.iconst 1, 1) := by decide +kernel
theorem dX4_isNamedByContent_2 : decode cX4_isNamedByContent 2 = .ok (.if_icmp .eq 25, 3) := by decide +kernel
theorem dX4_isNamedByContent_5 : decode cX4_isNamedByContent 5 = .ok (.iload_n 0, 1) := by decide +kernel
theorem dX4_isNamedByContent_6 : decode cX4_isNamedByContent 6 = .ok (.iconst 2, 1) := by decide +kernel
theorem dX4_isNamedByContent_7 : decode cX4_isNamedByContent 7 = .ok (.if_icmp .eq 20, 3) := by decide +kernel
theorem dX4_isNamedByContent_10 : decode cX4_isNamedByContent 10 = .ok (.iload_n 0, 1) := by decide +kernel
theorem dX4_isNamedByContent_11 : decode cX4_isNamedByContent 11 = .ok (.iconst 3, 1) := by decide +kernel
theorem dX4_isNamedByContent_12 : decode cX4_isNamedByContent 12 = .ok (.if_icmp .eq 15, 3) := by decide +kernel
theorem dX4_isNamedByContent_15 : decode cX4_isNamedByContent 15 = .ok (.iload_n 0, 1) := by decide +kernel
theorem dX4_isNamedByContent_16 : decode cX4_isNamedByContent 16 = .ok (.bipush 9, 2) := by decide +kernel
theorem dX4_isNamedByContent_18 : decode cX4_isNamedByContent 18 = .ok (.if_icmp .eq 9, 3) := by decide +kernel
theorem dX4_isNamedByContent_21 : decode cX4_isNamedByContent 21 = .ok (.iload_n 0, 1) := by decide +kernel
theorem dX4_isNamedByContent_22 : decode cX4_isNamedByContent 22 = .ok (.bipush 10, 2) := by decide +kernel
theorem dX4_isNamedByContent_24 : decode cX4_isNamedByContent 24 = .ok (.if_icmp .ne 7, 3) := by decide +kernel
theorem dX4_isNamedByContent_27 : decode cX4_isNamedByContent 27 = .ok (.iconst 1, 1) := by decide +kernel
theorem dX4_isNamedByContent_28 : decode cX4_isNamedByContent 28 = .ok (.goto 4, 3) := by decide +kernel
theorem dX4_isNamedByContent_31 : decode cX4_isNamedByContent 31 = .ok (.iconst 0, 1) := by decide +kernel
theorem dX4_isNamedByContent_32 : decode cX4_isNamedByContent 32 = .ok (.ireturn, 1) := by decide +kernel
abbrev rmX4_isNamedByContent : Room := { frames := 1, cells := 0, slots := 0, locals := 40 }
noncomputable def fX4_isNamedByContent_27 (n : Nat) (Sh : Sp) (M : Mm) (a0 : Int32) : Option Int32 :=
  some 1
noncomputable def fX4_isNamedByContent (n : Nat) (Sh : Sp) (M : Mm) (a0 : Int32) : Option Int32 :=
  if a0 = 1 then
    fX4_isNamedByContent_27 n Sh M a0
  else
    if a0 = 2 then
      fX4_isNamedByContent_27 n Sh M a0
    else
      if a0 = 3 then
        fX4_isNamedByContent_27 n Sh M a0
      else
        if a0 = 9 then
          fX4_isNamedByContent_27 n Sh M a0
        else
          if a0 = 10 then
            fX4_isNamedByContent_27 n Sh M a0
          else
            some 0
set_option maxRecDepth 100000 in
set_option maxHeartbeats 4000000 in
theorem kX4_isNamedByContent {l : Launch} {G : Gt} {n : Nat} {Sh : Sp} {M : Mm} {a0 : Int32} {r : Int32} (h : fX4_isNamedByContent n Sh M a0 = some r) : Ct l yX4_isNamedByContent cX4_isNamedByContent 1 (some .boolean) rmX4_isNamedByContent G Sh M [.int a0] (some (.int r)) M := by
  refine Ct.of (by decide) (Nat.le_of_ble_eq_true rfl) ?_
  intro p e s m args below meth c ls C hK hX hP hS hb hlk hr hl
  replace hl : lv_has ls 1 [(0, .int a0)] := hl
  have J27 : ∀ (H : Heap) (locs : List Loc) (ls : Array Slot), HM G Sh M H → SS G s s.heap.size H locs → lv_has ls 1 [(0, .int a0)] → fX4_isNamedByContent_27 n Sh M a0 = some r → W p l e rmX4_isNamedByContent s m args below meth c H locs 0 0 (MQ below (QG G Sh M (some (.int r))) args s rmX4_isNamedByContent.cells rmX4_isNamedByContent.slots (AA G)) (F0 m 27 ls []) := by
    intro  H locs ls hP hS hl h
    unfold fX4_isNamedByContent_27 at h
    refine lv_iconst (v := 1) C.1 C.2.1 dX4_isNamedByContent_27 (by decide) ?_
    refine lv_goto (tgt := 32) C.1 C.2.1 dX4_isNamedByContent_28 (by decide) ?_
    have e := Option.some.inj h
    exact q_z C hlk hP hS hr (by decide) (by rw [← e]) rfl dX4_isNamedByContent_32
  unfold fX4_isNamedByContent at h
  refine lv_iload_n C.1 C.2.1 dX4_isNamedByContent_0 rfl (lv_at hl 0 rfl) ?_
  refine lv_iconst (v := 1) C.1 C.2.1 dX4_isNamedByContent_1 (by decide) ?_
  refine b_ieq (tgt := 27) C dX4_isNamedByContent_2 (by decide) h (fun h => ?_) (fun h => ?_)
  · exact J27  _ _ _ hP hS (lv_sub hl [0] rfl) h
  · refine lv_iload_n C.1 C.2.1 dX4_isNamedByContent_5 rfl (lv_at hl 0 rfl) ?_
    refine lv_iconst (v := 2) C.1 C.2.1 dX4_isNamedByContent_6 (by decide) ?_
    refine b_ieq (tgt := 27) C dX4_isNamedByContent_7 (by decide) h (fun h => ?_) (fun h => ?_)
    · exact J27  _ _ _ hP hS (lv_sub hl [0] rfl) h
    · refine lv_iload_n C.1 C.2.1 dX4_isNamedByContent_10 rfl (lv_at hl 0 rfl) ?_
      refine lv_iconst (v := 3) C.1 C.2.1 dX4_isNamedByContent_11 (by decide) ?_
      refine b_ieq (tgt := 27) C dX4_isNamedByContent_12 (by decide) h (fun h => ?_) (fun h => ?_)
      · exact J27  _ _ _ hP hS (lv_sub hl [0] rfl) h
      · refine lv_iload_n C.1 C.2.1 dX4_isNamedByContent_15 rfl (lv_at hl 0 rfl) ?_
        refine lv_bipush (v := 9) C.1 C.2.1 dX4_isNamedByContent_16 (by decide) ?_
        refine b_ieq (tgt := 27) C dX4_isNamedByContent_18 (by decide) h (fun h => ?_) (fun h => ?_)
        · exact J27  _ _ _ hP hS (lv_sub hl [0] rfl) h
        · refine lv_iload_n C.1 C.2.1 dX4_isNamedByContent_21 rfl (lv_at hl 0 rfl) ?_
          refine lv_bipush (v := 10) C.1 C.2.1 dX4_isNamedByContent_22 (by decide) ?_
          refine b_ine (tgt := 31) C dX4_isNamedByContent_24 (by decide) h (fun h => ?_) (fun h => ?_)
          · exact J27  _ _ _ hP hS (lv_sub hl [0] rfl) h
          · refine lv_iconst (v := 0) C.1 C.2.1 dX4_isNamedByContent_31 (by decide) ?_
            have e := Option.some.inj h
            exact q_z C hlk hP hS hr (by decide) (by rw [← e]) rfl dX4_isNamedByContent_32
theorem dX4_joinName_0 : decode cX4_joinName 0 = .ok (.aload_n 0, 1) := by decide +kernel
theorem dX4_joinName_1 : decode cX4_joinName 1 = .ok (.iload_n 1, 1) := by decide +kernel
theorem dX4_joinName_2 : decode cX4_joinName 2 = .ok (.invokevirtual 130, 3) := by decide +kernel
theorem dX4_joinName_5 : decode cX4_joinName 5 = .ok (.iconst (-1), 1) := by decide +kernel
theorem dX4_joinName_6 : decode cX4_joinName 6 = .ok (.if_icmp .eq 17, 3) := by decide +kernel
theorem dX4_joinName_9 : decode cX4_joinName 9 = .ok (.aload_n 0, 1) := by decide +kernel
theorem dX4_joinName_10 : decode cX4_joinName 10 = .ok (.aload_n 0, 1) := by decide +kernel
theorem dX4_joinName_11 : decode cX4_joinName 11 = .ok (.iload_n 1, 1) := by decide +kernel
theorem dX4_joinName_12 : decode cX4_joinName 12 = .ok (.invokevirtual 130, 3) := by decide +kernel
theorem dX4_joinName_15 : decode cX4_joinName 15 = .ok (.aload_n 2, 1) := by decide +kernel
theorem dX4_joinName_16 : decode cX4_joinName 16 = .ok (.iconst 0, 1) := by decide +kernel
theorem dX4_joinName_17 : decode cX4_joinName 17 = .ok (.invokevirtual 133, 3) := by decide +kernel
theorem dX4_joinName_20 : decode cX4_joinName 20 = .ok (.goto 44, 3) := by decide +kernel
theorem dX4_joinName_23 : decode cX4_joinName 23 = .ok (.aload_n 0, 1) := by decide +kernel
theorem dX4_joinName_24 : decode cX4_joinName 24 = .ok (.iload_n 1, 1) := by decide +kernel
theorem dX4_joinName_25 : decode cX4_joinName 25 = .ok (.invokevirtual 127, 3) := by decide +kernel
theorem dX4_joinName_28 : decode cX4_joinName 28 = .ok (.getfield 124, 3) := by decide +kernel
theorem dX4_joinName_31 : decode cX4_joinName 31 = .ok (.ifCond .le 15, 3) := by decide +kernel
theorem dX4_joinName_34 : decode cX4_joinName 34 = .ok (.aload_n 2, 1) := by decide +kernel
theorem dX4_joinName_35 : decode cX4_joinName 35 = .ok (.aload_n 0, 1) := by decide +kernel
theorem dX4_joinName_36 : decode cX4_joinName 36 = .ok (.iload_n 1, 1) := by decide +kernel
theorem dX4_joinName_37 : decode cX4_joinName 37 = .ok (.invokevirtual 127, 3) := by decide +kernel
theorem dX4_joinName_40 : decode cX4_joinName 40 = .ok (.invokevirtual 140, 3) := by decide +kernel
theorem dX4_joinName_43 : decode cX4_joinName 43 = .ok (.goto 21, 3) := by decide +kernel
theorem dX4_joinName_46 : decode cX4_joinName 46 = .ok (.aload_n 0, 1) := by decide +kernel
theorem dX4_joinName_47 : decode cX4_joinName 47 = .ok (.iload_n 1, 1) := by decide +kernel
theorem dX4_joinName_48 : decode cX4_joinName 48 = .ok (.invokevirtual 108, 3) := by decide +kernel
theorem dX4_joinName_51 : decode cX4_joinName 51 = .ok (.invokestatic 143, 3) := by decide +kernel
theorem dX4_joinName_54 : decode cX4_joinName 54 = .ok (.ifCond .eq 10, 3) := by decide +kernel
theorem dX4_joinName_57 : decode cX4_joinName 57 = .ok (.aload_n 0, 1) := by decide +kernel
theorem dX4_joinName_58 : decode cX4_joinName 58 = .ok (.iload_n 1, 1) := by decide +kernel
theorem dX4_joinName_59 : decode cX4_joinName 59 = .ok (.aload_n 2, 1) := by decide +kernel
theorem dX4_joinName_60 : decode cX4_joinName 60 = .ok (.iconst 0, 1) := by decide +kernel
theorem dX4_joinName_61 : decode cX4_joinName 61 = .ok (.invokevirtual 133, 3) := by decide +kernel
theorem dX4_joinName_64 : decode cX4_joinName 64 = .ok (.return_, 1) := by decide +kernel
abbrev rmX4_joinName : Room := { frames := 63, cells := 0, slots := 0, locals := 1599 }
noncomputable def fX4_joinName (n : Nat) (Sh : Sp) (M : Mm) (a0 : Nat) (a1 : Int32) (a2 : Nat) : Option Mm :=
  (fX4_labellerOf n Sh M a0 a1).bind fun r1 =>
  if r1 = (-1) then
    (fX4_labelOf n Sh M a0 a1).bind fun r2 =>
    gI Sh M r2 5 1 fun x3 =>
    if x3 ≤ 0 then
      (fX4_roleOf n Sh M a0 a1).bind fun r4 =>
      (fX4_isNamedByContent n Sh M r4).bind fun r5 =>
      if r5 = 0 then
        some M
      else
        (fX4_addContent n 27 Sh M a0 a1 a2 0).bind fun r6 =>
        some r6
    else
      (fX4_labelOf n Sh M a0 a1).bind fun r7 =>
      chk (Sh a2 = some (.inl 5)) <|
      (fX5_join n Sh M a2 r7).bind fun r8 =>
      some r8
  else
    (fX4_labellerOf n Sh M a0 a1).bind fun r9 =>
    (fX4_addContent n 27 Sh M a0 r9 a2 0).bind fun r10 =>
    some r10
set_option maxRecDepth 100000 in
set_option maxHeartbeats 4000000 in
theorem kX4_joinName {l : Launch} {G : Gt} {n : Nat} {Sh : Sp} {M : Mm} {a0 : Nat} {a1 : Int32} {a2 : Nat} (hT : Sh a0 = some (.inl 4)) {r : Mm} (h : fX4_joinName n Sh M a0 a1 a2 = some r) : Ct l yX4_joinName cX4_joinName 3 none rmX4_joinName G Sh M [.ref a0, .int a1, .ref a2] none r := by
  refine Ct.of (by decide) (Nat.le_of_ble_eq_true rfl) ?_
  intro p e s m args below meth c ls C hK hX hP hS hb hlk hr hl
  replace hl : lv_has ls 3 [(0, .ref a0), (1, .int a1), (2, .ref a2)] := hl
  unfold fX4_joinName at h
  refine lv_aload_n C.1 C.2.1 dX4_joinName_0 rfl (lv_at hl 0 rfl) ?_
  refine lv_iload_n C.1 C.2.1 dX4_joinName_1 rfl (lv_at hl 1 rfl) ?_
  obtain ⟨r1, hc, h⟩ := bS h
  refine r_V1 C hK hX hb hP hS hl.1 (kX4_labellerOf (hT) hc) hT cl_4 wd_462 mo_X4_labellerOf wd_463 wd_464 ⟨Nat.le_of_ble_eq_true rfl, Nat.le_of_ble_eq_true rfl⟩ ⟨Nat.le_of_ble_eq_true rfl, Nat.le_of_ble_eq_true rfl⟩ rfl (rest := []) rfl (Nat.le_of_ble_eq_true rfl) dX4_joinName_2 (fun H locs hP hS => ?_)
  refine lv_iconst (v := (-1)) C.1 C.2.1 dX4_joinName_5 (by decide) ?_
  refine b_ieq (tgt := 23) C dX4_joinName_6 (by decide) h (fun h => ?_) (fun h => ?_)
  · refine lv_aload_n C.1 C.2.1 dX4_joinName_23 rfl (lv_at hl 0 rfl) ?_
    refine lv_iload_n C.1 C.2.1 dX4_joinName_24 rfl (lv_at hl 1 rfl) ?_
    obtain ⟨r2, hc, h⟩ := bS h
    refine r_V1 C hK hX hb hP hS hl.1 (kX4_labelOf (hT) hc) hT cl_4 wd_490 mo_X4_labelOf wd_491 wd_492 ⟨Nat.le_of_ble_eq_true rfl, Nat.le_of_ble_eq_true rfl⟩ ⟨Nat.le_of_ble_eq_true rfl, Nat.le_of_ble_eq_true rfl⟩ rfl (rest := []) rfl (Nat.le_of_ble_eq_true rfl) dX4_joinName_25 (fun H locs hP hS => ?_)
    refine r_gIN C hK hP cl_5 (k := 1) (by decide) (hX.nw wd_128) rfl dX4_joinName_28 h (fun x3 h => ?_)
    refine b_le (tgt := 46) C dX4_joinName_31 (by decide) h (fun h => ?_) (fun h => ?_)
    · refine lv_aload_n C.1 C.2.1 dX4_joinName_46 rfl (lv_at hl 0 rfl) ?_
      refine lv_iload_n C.1 C.2.1 dX4_joinName_47 rfl (lv_at hl 1 rfl) ?_
      obtain ⟨r4, hc, h⟩ := bS h
      refine r_V1 C hK hX hb hP hS hl.1 (kX4_roleOf (hT) hc) hT cl_4 wd_358 mo_X4_roleOf wd_359 wd_360 ⟨Nat.le_of_ble_eq_true rfl, Nat.le_of_ble_eq_true rfl⟩ ⟨Nat.le_of_ble_eq_true rfl, Nat.le_of_ble_eq_true rfl⟩ rfl (rest := []) rfl (Nat.le_of_ble_eq_true rfl) dX4_joinName_48 (fun H locs hP hS => ?_)
      obtain ⟨r5, hc, h⟩ := bS h
      refine r_S1 C hK hX hb hP hS hl.1 (kX4_isNamedByContent hc) wd_494 mo_X4_isNamedByContent wd_495 ⟨Nat.le_of_ble_eq_true rfl, Nat.le_of_ble_eq_true rfl⟩ ⟨Nat.le_of_ble_eq_true rfl, Nat.le_of_ble_eq_true rfl⟩ rfl (rest := []) rfl (Nat.le_of_ble_eq_true rfl) dX4_joinName_51 (fun H locs hP hS => ?_)
      refine b_eq (tgt := 64) C dX4_joinName_54 (by decide) h (fun h => ?_) (fun h => ?_)
      · have e := Option.some.inj h
        exact q_v C hlk hP hS hr rfl e.symm dX4_joinName_64
      · refine lv_aload_n C.1 C.2.1 dX4_joinName_57 rfl (lv_at hl 0 rfl) ?_
        refine lv_iload_n C.1 C.2.1 dX4_joinName_58 rfl (lv_at hl 1 rfl) ?_
        refine lv_aload_n C.1 C.2.1 dX4_joinName_59 rfl (lv_at hl 2 rfl) ?_
        refine lv_iconst (v := 0) C.1 C.2.1 dX4_joinName_60 (by decide) ?_
        obtain ⟨r6, hc, h⟩ := bS h
        refine r_V0 C hK hX hb hP hS hl.1 (kX4_addContent 27 (hT) hc) hT cl_4 wd_466 mo_X4_addContent wd_468 wd_6 ⟨Nat.le_of_ble_eq_true rfl, Nat.le_of_ble_eq_true rfl⟩ ⟨Nat.le_of_ble_eq_true rfl, Nat.le_of_ble_eq_true rfl⟩ rfl (rest := []) rfl (Nat.le_of_ble_eq_true rfl) dX4_joinName_61 (fun H locs hP hS => ?_)
        have e := Option.some.inj h
        exact q_v C hlk hP hS hr rfl e.symm dX4_joinName_64
    · refine lv_aload_n C.1 C.2.1 dX4_joinName_34 rfl (lv_at hl 2 rfl) ?_
      refine lv_aload_n C.1 C.2.1 dX4_joinName_35 rfl (lv_at hl 0 rfl) ?_
      refine lv_iload_n C.1 C.2.1 dX4_joinName_36 rfl (lv_at hl 1 rfl) ?_
      obtain ⟨r7, hc, h⟩ := bS h
      refine r_V1 C hK hX hb hP hS hl.1 (kX4_labelOf (hT) hc) hT cl_4 wd_490 mo_X4_labelOf wd_491 wd_492 ⟨Nat.le_of_ble_eq_true rfl, Nat.le_of_ble_eq_true rfl⟩ ⟨Nat.le_of_ble_eq_true rfl, Nat.le_of_ble_eq_true rfl⟩ rfl (rest := [.ref a2]) rfl (Nat.le_of_ble_eq_true rfl) dX4_joinName_37 (fun H locs hP hS => ?_)
      obtain ⟨hs, h⟩ := chk_some h
      obtain ⟨r8, hc, h⟩ := bS h
      refine r_V0 C hK hX hb hP hS hl.1 (kX5_join (hs) hc) hs cl_5 wd_474 mo_X5_join wd_475 wd_476 ⟨Nat.le_of_ble_eq_true rfl, Nat.le_of_ble_eq_true rfl⟩ ⟨Nat.le_of_ble_eq_true rfl, Nat.le_of_ble_eq_true rfl⟩ rfl (rest := []) rfl (Nat.le_of_ble_eq_true rfl) dX4_joinName_40 (fun H locs hP hS => ?_)
      refine lv_goto (tgt := 64) C.1 C.2.1 dX4_joinName_43 (by decide) ?_
      have e := Option.some.inj h
      exact q_v C hlk hP hS hr rfl e.symm dX4_joinName_64
  · refine lv_aload_n C.1 C.2.1 dX4_joinName_9 rfl (lv_at hl 0 rfl) ?_
    refine lv_aload_n C.1 C.2.1 dX4_joinName_10 rfl (lv_at hl 0 rfl) ?_
    refine lv_iload_n C.1 C.2.1 dX4_joinName_11 rfl (lv_at hl 1 rfl) ?_
    obtain ⟨r9, hc, h⟩ := bS h
    refine r_V1 C hK hX hb hP hS hl.1 (kX4_labellerOf (hT) hc) hT cl_4 wd_462 mo_X4_labellerOf wd_463 wd_464 ⟨Nat.le_of_ble_eq_true rfl, Nat.le_of_ble_eq_true rfl⟩ ⟨Nat.le_of_ble_eq_true rfl, Nat.le_of_ble_eq_true rfl⟩ rfl (rest := [.ref a0]) rfl (Nat.le_of_ble_eq_true rfl) dX4_joinName_12 (fun H locs hP hS => ?_)
    refine lv_aload_n C.1 C.2.1 dX4_joinName_15 rfl (lv_at hl 2 rfl) ?_
    refine lv_iconst (v := 0) C.1 C.2.1 dX4_joinName_16 (by decide) ?_
    obtain ⟨r10, hc, h⟩ := bS h
    refine r_V0 C hK hX hb hP hS hl.1 (kX4_addContent 27 (hT) hc) hT cl_4 wd_466 mo_X4_addContent wd_468 wd_6 ⟨Nat.le_of_ble_eq_true rfl, Nat.le_of_ble_eq_true rfl⟩ ⟨Nat.le_of_ble_eq_true rfl, Nat.le_of_ble_eq_true rfl⟩ rfl (rest := []) rfl (Nat.le_of_ble_eq_true rfl) dX4_joinName_17 (fun H locs hP hS => ?_)
    refine lv_goto (tgt := 64) C.1 C.2.1 dX4_joinName_20 (by decide) ?_
    have e := Option.some.inj h
    exact q_v C hlk hP hS hr rfl e.symm dX4_joinName_64
theorem dX4_roleWord_0 : decode cX4_roleWord 0 = .ok (.iload_n 0, 1) := by decide +kernel
theorem dX4_roleWord_1 : decode cX4_roleWord 1 = .ok (.tableswitch 72 2 10 #[51, 54, 57, 60, 63, 66, 72, 72, 69], 51) := by decide +kernel
theorem dX4_roleWord_52 : decode cX4_roleWord 52 = .ok (.ldc 159, 2) := by decide +kernel
theorem dX4_roleWord_54 : decode cX4_roleWord 54 = .ok (.areturn, 1) := by decide +kernel
theorem dX4_roleWord_55 : decode cX4_roleWord 55 = .ok (.ldc 161, 2) := by decide +kernel
theorem dX4_roleWord_57 : decode cX4_roleWord 57 = .ok (.areturn, 1) := by decide +kernel
theorem dX4_roleWord_58 : decode cX4_roleWord 58 = .ok (.ldc 163, 2) := by decide +kernel
theorem dX4_roleWord_60 : decode cX4_roleWord 60 = .ok (.areturn, 1) := by decide +kernel
theorem dX4_roleWord_61 : decode cX4_roleWord 61 = .ok (.ldc 165, 2) := by decide +kernel
theorem dX4_roleWord_63 : decode cX4_roleWord 63 = .ok (.areturn, 1) := by decide +kernel
theorem dX4_roleWord_64 : decode cX4_roleWord 64 = .ok (.ldc 167, 2) := by decide +kernel
theorem dX4_roleWord_66 : decode cX4_roleWord 66 = .ok (.areturn, 1) := by decide +kernel
theorem dX4_roleWord_67 : decode cX4_roleWord 67 = .ok (.ldc 169, 2) := by decide +kernel
theorem dX4_roleWord_69 : decode cX4_roleWord 69 = .ok (.areturn, 1) := by decide +kernel
theorem dX4_roleWord_70 : decode cX4_roleWord 70 = .ok (.ldc 171, 2) := by decide +kernel
theorem dX4_roleWord_72 : decode cX4_roleWord 72 = .ok (.areturn, 1) := by decide +kernel
theorem dX4_roleWord_73 : decode cX4_roleWord 73 = .ok (.ldc 173, 2) := by decide +kernel
theorem dX4_roleWord_75 : decode cX4_roleWord 75 = .ok (.areturn, 1) := by decide +kernel
abbrev rmX4_roleWord : Room := { frames := 1, cells := 0, slots := 0, locals := 40 }
noncomputable def fX4_roleWord (n : Nat) (Sh : Sp) (M : Mm) (a0 : Int32) : Option Nat :=
  if a0 = 2 then
    some 0
  else if a0 = 3 then
    some 1
  else if a0 = 4 then
    some 2
  else if a0 = 5 then
    some 3
  else if a0 = 6 then
    some 4
  else if a0 = 7 then
    some 5
  else if a0 = 8 then
    some 7
  else if a0 = 9 then
    some 7
  else if a0 = 10 then
    some 6
  else
    some 7
set_option maxRecDepth 100000 in
set_option maxHeartbeats 4000000 in
theorem kX4_roleWord {l : Launch} {G : Gt} {n : Nat} {Sh : Sp} {M : Mm} {a0 : Int32} {r : Nat} (h : fX4_roleWord n Sh M a0 = some r) : Ct l yX4_roleWord cX4_roleWord 1 (some (.object "java/lang/String")) rmX4_roleWord G Sh M [.int a0] (some (.ref (G.2.2.2.1 r))) M := by
  refine Ct.of (by decide) (Nat.le_of_ble_eq_true rfl) ?_
  intro p e s m args below meth c ls C hK hX hP hS hb hlk hr hl
  replace hl : lv_has ls 1 [(0, .int a0)] := hl
  unfold fX4_roleWord at h
  refine lv_iload_n C.1 C.2.1 dX4_roleWord_0 rfl (lv_at hl 0 rfl) ?_
  by_cases q0 : a0 = 2
  · rw [if_pos q0] at h
    refine lv_tableIn (off := 51) (tgt := 52) C.1 C.2.1 dX4_roleWord_1 (by rw [q0]; decide) (by rw [q0]; decide) (by rw [q0]; decide) (by decide) ?_
    refine va_ldcS C.1 C.2.1 C.2.2.2.1 (hX.2.2.2.2.2.1 0 _ rfl) dX4_roleWord_52 ?_
    have e := Option.some.inj h
    exact q_a C hlk hP hS hr (by rw [← e]) rfl dX4_roleWord_54
  rw [if_neg q0] at h
  by_cases q1 : a0 = 3
  · rw [if_pos q1] at h
    refine lv_tableIn (off := 54) (tgt := 55) C.1 C.2.1 dX4_roleWord_1 (by rw [q1]; decide) (by rw [q1]; decide) (by rw [q1]; decide) (by decide) ?_
    refine va_ldcS C.1 C.2.1 C.2.2.2.1 (hX.2.2.2.2.2.1 1 _ rfl) dX4_roleWord_55 ?_
    have e := Option.some.inj h
    exact q_a C hlk hP hS hr (by rw [← e]) rfl dX4_roleWord_57
  rw [if_neg q1] at h
  by_cases q2 : a0 = 4
  · rw [if_pos q2] at h
    refine lv_tableIn (off := 57) (tgt := 58) C.1 C.2.1 dX4_roleWord_1 (by rw [q2]; decide) (by rw [q2]; decide) (by rw [q2]; decide) (by decide) ?_
    refine va_ldcS C.1 C.2.1 C.2.2.2.1 (hX.2.2.2.2.2.1 2 _ rfl) dX4_roleWord_58 ?_
    have e := Option.some.inj h
    exact q_a C hlk hP hS hr (by rw [← e]) rfl dX4_roleWord_60
  rw [if_neg q2] at h
  by_cases q3 : a0 = 5
  · rw [if_pos q3] at h
    refine lv_tableIn (off := 60) (tgt := 61) C.1 C.2.1 dX4_roleWord_1 (by rw [q3]; decide) (by rw [q3]; decide) (by rw [q3]; decide) (by decide) ?_
    refine va_ldcS C.1 C.2.1 C.2.2.2.1 (hX.2.2.2.2.2.1 3 _ rfl) dX4_roleWord_61 ?_
    have e := Option.some.inj h
    exact q_a C hlk hP hS hr (by rw [← e]) rfl dX4_roleWord_63
  rw [if_neg q3] at h
  by_cases q4 : a0 = 6
  · rw [if_pos q4] at h
    refine lv_tableIn (off := 63) (tgt := 64) C.1 C.2.1 dX4_roleWord_1 (by rw [q4]; decide) (by rw [q4]; decide) (by rw [q4]; decide) (by decide) ?_
    refine va_ldcS C.1 C.2.1 C.2.2.2.1 (hX.2.2.2.2.2.1 4 _ rfl) dX4_roleWord_64 ?_
    have e := Option.some.inj h
    exact q_a C hlk hP hS hr (by rw [← e]) rfl dX4_roleWord_66
  rw [if_neg q4] at h
  by_cases q5 : a0 = 7
  · rw [if_pos q5] at h
    refine lv_tableIn (off := 66) (tgt := 67) C.1 C.2.1 dX4_roleWord_1 (by rw [q5]; decide) (by rw [q5]; decide) (by rw [q5]; decide) (by decide) ?_
    refine va_ldcS C.1 C.2.1 C.2.2.2.1 (hX.2.2.2.2.2.1 5 _ rfl) dX4_roleWord_67 ?_
    have e := Option.some.inj h
    exact q_a C hlk hP hS hr (by rw [← e]) rfl dX4_roleWord_69
  rw [if_neg q5] at h
  by_cases q6 : a0 = 8
  · rw [if_pos q6] at h
    refine lv_tableIn (off := 72) (tgt := 73) C.1 C.2.1 dX4_roleWord_1 (by rw [q6]; decide) (by rw [q6]; decide) (by rw [q6]; decide) (by decide) ?_
    refine va_ldcS C.1 C.2.1 C.2.2.2.1 (hX.2.2.2.2.2.1 7 _ rfl) dX4_roleWord_73 ?_
    have e := Option.some.inj h
    exact q_a C hlk hP hS hr (by rw [← e]) rfl dX4_roleWord_75
  rw [if_neg q6] at h
  by_cases q7 : a0 = 9
  · rw [if_pos q7] at h
    refine lv_tableIn (off := 72) (tgt := 73) C.1 C.2.1 dX4_roleWord_1 (by rw [q7]; decide) (by rw [q7]; decide) (by rw [q7]; decide) (by decide) ?_
    refine va_ldcS C.1 C.2.1 C.2.2.2.1 (hX.2.2.2.2.2.1 7 _ rfl) dX4_roleWord_73 ?_
    have e := Option.some.inj h
    exact q_a C hlk hP hS hr (by rw [← e]) rfl dX4_roleWord_75
  rw [if_neg q7] at h
  by_cases q8 : a0 = 10
  · rw [if_pos q8] at h
    refine lv_tableIn (off := 69) (tgt := 70) C.1 C.2.1 dX4_roleWord_1 (by rw [q8]; decide) (by rw [q8]; decide) (by rw [q8]; decide) (by decide) ?_
    refine va_ldcS C.1 C.2.1 C.2.2.2.1 (hX.2.2.2.2.2.1 6 _ rfl) dX4_roleWord_70 ?_
    have e := Option.some.inj h
    exact q_a C hlk hP hS hr (by rw [← e]) rfl dX4_roleWord_72
  rw [if_neg q8] at h
  refine lv_tableOut (tgt := 73) C.1 C.2.1 dX4_roleWord_1 (sw_out (x := a0) (lo := 2) (n := 9) (by decide) (fun j hj => match j, hj with | 0, _ => fun hx => q0 (hx.trans (by decide)) | 1, _ => fun hx => q1 (hx.trans (by decide)) | 2, _ => fun hx => q2 (hx.trans (by decide)) | 3, _ => fun hx => q3 (hx.trans (by decide)) | 4, _ => fun hx => q4 (hx.trans (by decide)) | 5, _ => fun hx => q5 (hx.trans (by decide)) | 6, _ => fun hx => q6 (hx.trans (by decide)) | 7, _ => fun hx => q7 (hx.trans (by decide)) | 8, _ => fun hx => q8 (hx.trans (by decide)) | (k + 9), hj => absurd hj (by omega))) (by decide) ?_
  refine va_ldcS C.1 C.2.1 C.2.2.2.1 (hX.2.2.2.2.2.1 7 _ rfl) dX4_roleWord_73 ?_
  have e := Option.some.inj h
  exact q_a C hlk hP hS hr (by rw [← e]) rfl dX4_roleWord_75
theorem dX4_joinPhrase_0 : decode cX4_joinPhrase 0 = .ok (.aload_n 0, 1) := by decide +kernel
theorem dX4_joinPhrase_1 : decode cX4_joinPhrase 1 = .ok (.iload_n 1, 1) := by decide +kernel
theorem dX4_joinPhrase_2 : decode cX4_joinPhrase 2 = .ok (.aload_n 2, 1) := by decide +kernel
theorem dX4_joinPhrase_3 : decode cX4_joinPhrase 3 = .ok (.invokevirtual 146, 3) := by decide +kernel
theorem dX4_joinPhrase_6 : decode cX4_joinPhrase 6 = .ok (.aload_n 2, 1) := by decide +kernel
theorem dX4_joinPhrase_7 : decode cX4_joinPhrase 7 = .ok (.aload_n 0, 1) := by decide +kernel
theorem dX4_joinPhrase_8 : decode cX4_joinPhrase 8 = .ok (.iload_n 1, 1) := by decide +kernel
theorem dX4_joinPhrase_9 : decode cX4_joinPhrase 9 = .ok (.invokevirtual 108, 3) := by decide +kernel
theorem dX4_joinPhrase_12 : decode cX4_joinPhrase 12 = .ok (.invokestatic 150, 3) := by decide +kernel
theorem dX4_joinPhrase_15 : decode cX4_joinPhrase 15 = .ok (.invokevirtual 154, 3) := by decide +kernel
theorem dX4_joinPhrase_18 : decode cX4_joinPhrase 18 = .ok (.aload_n 0, 1) := by decide +kernel
theorem dX4_joinPhrase_19 : decode cX4_joinPhrase 19 = .ok (.iload_n 1, 1) := by decide +kernel
theorem dX4_joinPhrase_20 : decode cX4_joinPhrase 20 = .ok (.invokevirtual 108, 3) := by decide +kernel
theorem dX4_joinPhrase_23 : decode cX4_joinPhrase 23 = .ok (.iconst 5, 1) := by decide +kernel
theorem dX4_joinPhrase_24 : decode cX4_joinPhrase 24 = .ok (.if_icmp .ne 12, 3) := by decide +kernel
theorem dX4_joinPhrase_27 : decode cX4_joinPhrase 27 = .ok (.aload_n 2, 1) := by decide +kernel
theorem dX4_joinPhrase_28 : decode cX4_joinPhrase 28 = .ok (.aload_n 0, 1) := by decide +kernel
theorem dX4_joinPhrase_29 : decode cX4_joinPhrase 29 = .ok (.iload_n 1, 1) := by decide +kernel
theorem dX4_joinPhrase_30 : decode cX4_joinPhrase 30 = .ok (.invokevirtual 120, 3) := by decide +kernel
theorem dX4_joinPhrase_33 : decode cX4_joinPhrase 33 = .ok (.invokevirtual 140, 3) := by decide +kernel
theorem dX4_joinPhrase_36 : decode cX4_joinPhrase 36 = .ok (.aload_n 0, 1) := by decide +kernel
theorem dX4_joinPhrase_37 : decode cX4_joinPhrase 37 = .ok (.iload_n 1, 1) := by decide +kernel
theorem dX4_joinPhrase_38 : decode cX4_joinPhrase 38 = .ok (.iconst 1, 1) := by decide +kernel
theorem dX4_joinPhrase_39 : decode cX4_joinPhrase 39 = .ok (.invokevirtual 105, 3) := by decide +kernel
theorem dX4_joinPhrase_42 : decode cX4_joinPhrase 42 = .ok (.iconst 1, 1) := by decide +kernel
theorem dX4_joinPhrase_43 : decode cX4_joinPhrase 43 = .ok (.if_icmp .ne 9, 3) := by decide +kernel
theorem dX4_joinPhrase_46 : decode cX4_joinPhrase 46 = .ok (.aload_n 2, 1) := by decide +kernel
theorem dX4_joinPhrase_47 : decode cX4_joinPhrase 47 = .ok (.ldc 157, 2) := by decide +kernel
theorem dX4_joinPhrase_49 : decode cX4_joinPhrase 49 = .ok (.invokevirtual 154, 3) := by decide +kernel
theorem dX4_joinPhrase_52 : decode cX4_joinPhrase 52 = .ok (.return_, 1) := by decide +kernel
abbrev rmX4_joinPhrase : Room := { frames := 64, cells := 0, slots := 0, locals := 1621 }
noncomputable def fX4_joinPhrase_36 (n : Nat) (Sh : Sp) (a0 : Nat) (a1 : Int32) (a2 : Nat) (M : Mm) : Option Mm :=
  (fX4_setting n Sh M a0 a1 1).bind fun r1 =>
  if r1 = 1 then
    chk (Sh a2 = some (.inl 5)) <|
    (fX5_join_ n Sh M a2 8).bind fun r2 =>
    some r2
  else
    some M
noncomputable def fX4_joinPhrase (n : Nat) (Sh : Sp) (M : Mm) (a0 : Nat) (a1 : Int32) (a2 : Nat) : Option Mm :=
  (fX4_joinName n Sh M a0 a1 a2).bind fun r3 =>
  (fX4_roleOf n Sh r3 a0 a1).bind fun r4 =>
  (fX4_roleWord n Sh r3 r4).bind fun r5 =>
  chk (Sh a2 = some (.inl 5)) <|
  (fX5_join_ n Sh r3 a2 r5).bind fun r6 =>
  (fX4_roleOf n Sh r6 a0 a1).bind fun r7 =>
  if r7 = 5 then
    (fX4_textOf n Sh r6 a0 a1).bind fun r8 =>
    chk (Sh a2 = some (.inl 5)) <|
    (fX5_join n Sh r6 a2 r8).bind fun r9 =>
    fX4_joinPhrase_36 n Sh a0 a1 a2 r9
  else
    fX4_joinPhrase_36 n Sh a0 a1 a2 r6
set_option maxRecDepth 100000 in
set_option maxHeartbeats 4000000 in
theorem kX4_joinPhrase {l : Launch} {G : Gt} {n : Nat} {Sh : Sp} {M : Mm} {a0 : Nat} {a1 : Int32} {a2 : Nat} (hT : Sh a0 = some (.inl 4)) {r : Mm} (h : fX4_joinPhrase n Sh M a0 a1 a2 = some r) : Ct l yX4_joinPhrase cX4_joinPhrase 3 none rmX4_joinPhrase G Sh M [.ref a0, .int a1, .ref a2] none r := by
  refine Ct.of (by decide) (Nat.le_of_ble_eq_true rfl) ?_
  intro p e s m args below meth c ls C hK hX hP hS hb hlk hr hl
  replace hl : lv_has ls 3 [(0, .ref a0), (1, .int a1), (2, .ref a2)] := hl
  have J36 : ∀ (M : Mm) (H : Heap) (locs : List Loc) (ls : Array Slot), HM G Sh M H → SS G s s.heap.size H locs → lv_has ls 3 [(0, .ref a0), (1, .int a1), (2, .ref a2)] → fX4_joinPhrase_36 n Sh a0 a1 a2 M = some r → W p l e rmX4_joinPhrase s m args below meth c H locs 0 0 (MQ below (QG G Sh r none) args s rmX4_joinPhrase.cells rmX4_joinPhrase.slots (AA G)) (F0 m 36 ls []) := by
    intro M H locs ls hP hS hl h
    unfold fX4_joinPhrase_36 at h
    refine lv_aload_n C.1 C.2.1 dX4_joinPhrase_36 rfl (lv_at hl 0 rfl) ?_
    refine lv_iload_n C.1 C.2.1 dX4_joinPhrase_37 rfl (lv_at hl 1 rfl) ?_
    refine lv_iconst (v := 1) C.1 C.2.1 dX4_joinPhrase_38 (by decide) ?_
    obtain ⟨r1, hc, h⟩ := bS h
    refine r_V1 C hK hX hb hP hS hl.1 (kX4_setting (hT) hc) hT cl_4 wd_354 mo_X4_setting wd_355 wd_356 ⟨Nat.le_of_ble_eq_true rfl, Nat.le_of_ble_eq_true rfl⟩ ⟨Nat.le_of_ble_eq_true rfl, Nat.le_of_ble_eq_true rfl⟩ rfl (rest := []) rfl (Nat.le_of_ble_eq_true rfl) dX4_joinPhrase_39 (fun H locs hP hS => ?_)
    refine lv_iconst (v := 1) C.1 C.2.1 dX4_joinPhrase_42 (by decide) ?_
    refine b_ine (tgt := 52) C dX4_joinPhrase_43 (by decide) h (fun h => ?_) (fun h => ?_)
    · refine lv_aload_n C.1 C.2.1 dX4_joinPhrase_46 rfl (lv_at hl 2 rfl) ?_
      refine va_ldcS C.1 C.2.1 C.2.2.2.1 (hX.2.2.2.2.2.1 8 _ rfl) dX4_joinPhrase_47 ?_
      obtain ⟨hs, h⟩ := chk_some h
      obtain ⟨r2, hc, h⟩ := bS h
      refine r_V0 C hK hX hb hP hS hl.1 (kX5_join_ (hs) hc) hs cl_5 wd_508 mo_X5_join_ wd_509 wd_510 ⟨Nat.le_of_ble_eq_true rfl, Nat.le_of_ble_eq_true rfl⟩ ⟨Nat.le_of_ble_eq_true rfl, Nat.le_of_ble_eq_true rfl⟩ rfl (rest := []) rfl (Nat.le_of_ble_eq_true rfl) dX4_joinPhrase_49 (fun H locs hP hS => ?_)
      have e := Option.some.inj h
      exact q_v C hlk hP hS hr rfl e.symm dX4_joinPhrase_52
    · have e := Option.some.inj h
      exact q_v C hlk hP hS hr rfl e.symm dX4_joinPhrase_52
  unfold fX4_joinPhrase at h
  refine lv_aload_n C.1 C.2.1 dX4_joinPhrase_0 rfl (lv_at hl 0 rfl) ?_
  refine lv_iload_n C.1 C.2.1 dX4_joinPhrase_1 rfl (lv_at hl 1 rfl) ?_
  refine lv_aload_n C.1 C.2.1 dX4_joinPhrase_2 rfl (lv_at hl 2 rfl) ?_
  obtain ⟨r3, hc, h⟩ := bS h
  refine r_V0 C hK hX hb hP hS hl.1 (kX4_joinName (hT) hc) hT cl_4 wd_458 mo_X4_joinName wd_459 wd_460 ⟨Nat.le_of_ble_eq_true rfl, Nat.le_of_ble_eq_true rfl⟩ ⟨Nat.le_of_ble_eq_true rfl, Nat.le_of_ble_eq_true rfl⟩ rfl (rest := []) rfl (Nat.le_of_ble_eq_true rfl) dX4_joinPhrase_3 (fun H locs hP hS => ?_)
  refine lv_aload_n C.1 C.2.1 dX4_joinPhrase_6 rfl (lv_at hl 2 rfl) ?_
  refine lv_aload_n C.1 C.2.1 dX4_joinPhrase_7 rfl (lv_at hl 0 rfl) ?_
  refine lv_iload_n C.1 C.2.1 dX4_joinPhrase_8 rfl (lv_at hl 1 rfl) ?_
  obtain ⟨r4, hc, h⟩ := bS h
  refine r_V1 C hK hX hb hP hS hl.1 (kX4_roleOf (hT) hc) hT cl_4 wd_358 mo_X4_roleOf wd_359 wd_360 ⟨Nat.le_of_ble_eq_true rfl, Nat.le_of_ble_eq_true rfl⟩ ⟨Nat.le_of_ble_eq_true rfl, Nat.le_of_ble_eq_true rfl⟩ rfl (rest := [.ref a2]) rfl (Nat.le_of_ble_eq_true rfl) dX4_joinPhrase_9 (fun H locs hP hS => ?_)
  obtain ⟨r5, hc, h⟩ := bS h
  refine r_S1 C hK hX hb hP hS hl.1 (kX4_roleWord hc) wd_497 mo_X4_roleWord wd_498 ⟨Nat.le_of_ble_eq_true rfl, Nat.le_of_ble_eq_true rfl⟩ ⟨Nat.le_of_ble_eq_true rfl, Nat.le_of_ble_eq_true rfl⟩ rfl (rest := [.ref a2]) rfl (Nat.le_of_ble_eq_true rfl) dX4_joinPhrase_12 (fun H locs hP hS => ?_)
  obtain ⟨hs, h⟩ := chk_some h
  obtain ⟨r6, hc, h⟩ := bS h
  refine r_V0 C hK hX hb hP hS hl.1 (kX5_join_ (hs) hc) hs cl_5 wd_508 mo_X5_join_ wd_509 wd_510 ⟨Nat.le_of_ble_eq_true rfl, Nat.le_of_ble_eq_true rfl⟩ ⟨Nat.le_of_ble_eq_true rfl, Nat.le_of_ble_eq_true rfl⟩ rfl (rest := []) rfl (Nat.le_of_ble_eq_true rfl) dX4_joinPhrase_15 (fun H locs hP hS => ?_)
  refine lv_aload_n C.1 C.2.1 dX4_joinPhrase_18 rfl (lv_at hl 0 rfl) ?_
  refine lv_iload_n C.1 C.2.1 dX4_joinPhrase_19 rfl (lv_at hl 1 rfl) ?_
  obtain ⟨r7, hc, h⟩ := bS h
  refine r_V1 C hK hX hb hP hS hl.1 (kX4_roleOf (hT) hc) hT cl_4 wd_358 mo_X4_roleOf wd_359 wd_360 ⟨Nat.le_of_ble_eq_true rfl, Nat.le_of_ble_eq_true rfl⟩ ⟨Nat.le_of_ble_eq_true rfl, Nat.le_of_ble_eq_true rfl⟩ rfl (rest := []) rfl (Nat.le_of_ble_eq_true rfl) dX4_joinPhrase_20 (fun H locs hP hS => ?_)
  refine lv_iconst (v := 5) C.1 C.2.1 dX4_joinPhrase_23 (by decide) ?_
  refine b_ine (tgt := 36) C dX4_joinPhrase_24 (by decide) h (fun h => ?_) (fun h => ?_)
  · refine lv_aload_n C.1 C.2.1 dX4_joinPhrase_27 rfl (lv_at hl 2 rfl) ?_
    refine lv_aload_n C.1 C.2.1 dX4_joinPhrase_28 rfl (lv_at hl 0 rfl) ?_
    refine lv_iload_n C.1 C.2.1 dX4_joinPhrase_29 rfl (lv_at hl 1 rfl) ?_
    obtain ⟨r8, hc, h⟩ := bS h
    refine r_V1 C hK hX hb hP hS hl.1 (kX4_textOf (hT) hc) hT cl_4 wd_470 mo_X4_textOf wd_471 wd_472 ⟨Nat.le_of_ble_eq_true rfl, Nat.le_of_ble_eq_true rfl⟩ ⟨Nat.le_of_ble_eq_true rfl, Nat.le_of_ble_eq_true rfl⟩ rfl (rest := [.ref a2]) rfl (Nat.le_of_ble_eq_true rfl) dX4_joinPhrase_30 (fun H locs hP hS => ?_)
    obtain ⟨hs, h⟩ := chk_some h
    obtain ⟨r9, hc, h⟩ := bS h
    refine r_V0 C hK hX hb hP hS hl.1 (kX5_join (hs) hc) hs cl_5 wd_474 mo_X5_join wd_475 wd_476 ⟨Nat.le_of_ble_eq_true rfl, Nat.le_of_ble_eq_true rfl⟩ ⟨Nat.le_of_ble_eq_true rfl, Nat.le_of_ble_eq_true rfl⟩ rfl (rest := []) rfl (Nat.le_of_ble_eq_true rfl) dX4_joinPhrase_33 (fun H locs hP hS => ?_)
    exact J36 (r9) _ _ _ hP hS (lv_sub hl [0, 1, 2] rfl) h
  · exact J36 (r6) _ _ _ hP hS (lv_sub hl [0, 1, 2] rfl) h
