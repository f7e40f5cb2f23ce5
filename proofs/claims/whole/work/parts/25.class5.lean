theorem dX2_at_0 : decode cX2_at 0 = .ok (.iload_n 1, 1) := by decide +kernel
theorem dX2_at_1 : decode cX2_at 1 = .ok (.ifCond .lt 26, 3) := by decide +kernel
theorem dX2_at_4 : decode cX2_at 4 = .ok (.iload_n 1, 1) := by decide +kernel
theorem dX2_at_5 : decode cX2_at 5 = .ok (.aload_n 0, 1) := by decide +kernel
theorem dX2_at_6 : decode cX2_at 6 = .ok (.getfield 18, 3) := by decide +kernel
theorem dX2_at_9 : decode cX2_at 9 = .ok (.if_icmp .ge 18, 3) := by decide +kernel
theorem dX2_at_12 : decode cX2_at 12 = .ok (.iload_n 1, 1) := by decide +kernel
theorem dX2_at_13 : decode cX2_at 13 = .ok (.bipush 24, 2) := by decide +kernel
theorem dX2_at_15 : decode cX2_at 15 = .ok (.if_icmp .ge 12, 3) := by decide +kernel
theorem dX2_at_18 : decode cX2_at 18 = .ok (.aload_n 0, 1) := by decide +kernel
theorem dX2_at_19 : decode cX2_at 19 = .ok (.getfield 15, 3) := by decide +kernel
theorem dX2_at_22 : decode cX2_at 22 = .ok (.iload_n 1, 1) := by decide +kernel
theorem dX2_at_23 : decode cX2_at 23 = .ok (.iaload, 1) := by decide +kernel
theorem dX2_at_24 : decode cX2_at 24 = .ok (.goto 4, 3) := by decide +kernel
theorem dX2_at_27 : decode cX2_at 27 = .ok (.iconst (-1), 1) := by decide +kernel
theorem dX2_at_28 : decode cX2_at 28 = .ok (.ireturn, 1) := by decide +kernel
abbrev rmX2_at : Room := { frames := 1, cells := 0, slots := 0, locals := 40 }
noncomputable def fX2_at (n : Nat) (Sh : Sp) (M : Mm) (a0 : Nat) (a1 : Int32) : Option Int32 :=
  if a1 < 0 then
    some (-1)
  else
    tI M a0 3 fun x1 =>
    if a1 < x1 then
      if a1 < 24 then
        tF M a0 2 fun b2 =>
        aI Sh M b2 0 a1 fun x3 =>
        some x3
      else
        some (-1)
    else
      some (-1)
set_option maxRecDepth 100000 in
set_option maxHeartbeats 4000000 in
theorem kX2_at {l : Launch} {G : Gt} {n : Nat} {Sh : Sp} {M : Mm} {a0 : Nat} {a1 : Int32} (hT : Sh a0 = some (.inl 2)) {r : Int32} (h : fX2_at n Sh M a0 a1 = some r) : Ct l yX2_at cX2_at 2 (some .int) rmX2_at G Sh M [.ref a0, .int a1] (some (.int r)) M := by
  refine Ct.of (by decide) (Nat.le_of_ble_eq_true rfl) ?_
  intro p e s m args below meth c ls C hK hX hP hS hb hlk hr hl
  replace hl : lv_has ls 2 [(0, .ref a0), (1, .int a1)] := hl
  unfold fX2_at at h
  refine lv_iload_n C.1 C.2.1 dX2_at_0 rfl (lv_at hl 1 rfl) ?_
  refine b_lt (tgt := 27) C dX2_at_1 (by decide) h (fun h => ?_) (fun h => ?_)
  · refine lv_iconst (v := (-1)) C.1 C.2.1 dX2_at_27 (by decide) ?_
    have e := Option.some.inj h
    exact q_i C hlk hP hS hr (by rw [← e]) rfl dX2_at_28
  · refine lv_iload_n C.1 C.2.1 dX2_at_4 rfl (lv_at hl 1 rfl) ?_
    refine lv_aload_n C.1 C.2.1 dX2_at_5 rfl (lv_at hl 0 rfl) ?_
    refine r_tI C hK hP hT cl_2 (k := 3) (by decide) wd_240 rfl dX2_at_6 h (fun x1 h => ?_)
    refine b_ige (tgt := 27) C dX2_at_9 (by decide) h (fun h => ?_) (fun h => ?_)
    · refine lv_iload_n C.1 C.2.1 dX2_at_12 rfl (lv_at hl 1 rfl) ?_
      refine lv_bipush (v := 24) C.1 C.2.1 dX2_at_13 (by decide) ?_
      refine b_ige (tgt := 27) C dX2_at_15 (by decide) h (fun h => ?_) (fun h => ?_)
      · refine lv_aload_n C.1 C.2.1 dX2_at_18 rfl (lv_at hl 0 rfl) ?_
        refine r_tF C hK hP hT cl_2 (k := 2) (by decide) wd_239 rfl dX2_at_19 h (fun b2 h => ?_)
        refine lv_iload_n C.1 C.2.1 dX2_at_22 rfl (lv_at hl 1 rfl) ?_
        refine r_aI C hK hP dX2_at_23 h (fun x3 h => ?_)
        refine lv_goto (tgt := 28) C.1 C.2.1 dX2_at_24 (by decide) ?_
        have e := Option.some.inj h
        exact q_i C hlk hP hS hr (by rw [← e]) rfl dX2_at_28
      · refine lv_iconst (v := (-1)) C.1 C.2.1 dX2_at_27 (by decide) ?_
        have e := Option.some.inj h
        exact q_i C hlk hP hS hr (by rw [← e]) rfl dX2_at_28
    · refine lv_iconst (v := (-1)) C.1 C.2.1 dX2_at_27 (by decide) ?_
      have e := Option.some.inj h
      exact q_i C hlk hP hS hr (by rw [← e]) rfl dX2_at_28
theorem dX2_find_0 : decode cX2_find 0 = .ok (.iconst 0, 1) := by decide +kernel
theorem dX2_find_1 : decode cX2_find 1 = .ok (.istore_n 2, 1) := by decide +kernel
theorem dX2_find_2 : decode cX2_find 2 = .ok (.iload_n 2, 1) := by decide +kernel
theorem dX2_find_3 : decode cX2_find 3 = .ok (.aload_n 0, 1) := by decide +kernel
theorem dX2_find_4 : decode cX2_find 4 = .ok (.getfield 18, 3) := by decide +kernel
theorem dX2_find_7 : decode cX2_find 7 = .ok (.if_icmp .ge 20, 3) := by decide +kernel
theorem dX2_find_10 : decode cX2_find 10 = .ok (.aload_n 0, 1) := by decide +kernel
theorem dX2_find_11 : decode cX2_find 11 = .ok (.iload_n 2, 1) := by decide +kernel
theorem dX2_find_12 : decode cX2_find 12 = .ok (.invokevirtual 61, 3) := by decide +kernel
theorem dX2_find_15 : decode cX2_find 15 = .ok (.iload_n 1, 1) := by decide +kernel
theorem dX2_find_16 : decode cX2_find 16 = .ok (.if_icmp .ne 5, 3) := by decide +kernel
theorem dX2_find_19 : decode cX2_find 19 = .ok (.iload_n 2, 1) := by decide +kernel
theorem dX2_find_20 : decode cX2_find 20 = .ok (.ireturn, 1) := by decide +kernel
theorem dX2_find_21 : decode cX2_find 21 = .ok (.iinc 2 1, 3) := by decide +kernel
theorem dX2_find_24 : decode cX2_find 24 = .ok (.goto (-22), 3) := by decide +kernel
theorem dX2_find_27 : decode cX2_find 27 = .ok (.iconst (-1), 1) := by decide +kernel
theorem dX2_find_28 : decode cX2_find 28 = .ok (.ireturn, 1) := by decide +kernel
abbrev rmX2_find : Room := { frames := 2, cells := 0, slots := 0, locals := 61 }
noncomputable def fX2_find_2b (n : Nat) (Sh : Sp) (M : Mm) (a0 : Nat) (a1 : Int32) (v2 : Int32) : Option (Int32 ⊕ Int32) :=
  tI M a0 3 fun x1 =>
  if v2 < x1 then
    (fX2_at n Sh M a0 v2).bind fun r2 =>
    if r2 = a1 then
      some (Sum.inr v2)
    else
      some (Sum.inl (v2 + 1))
  else
    some (Sum.inr (-1))
noncomputable def fX2_find_2 (n : Nat) (Sh : Sp) (M : Mm) (a0 : Nat) (a1 : Int32) (v2 : Int32) : Option Int32 :=
  iter n (fun s => fX2_find_2b n Sh M a0 a1 s) v2
noncomputable def fX2_find (n : Nat) (Sh : Sp) (M : Mm) (a0 : Nat) (a1 : Int32) : Option Int32 :=
  fX2_find_2 n Sh M a0 a1 0
set_option maxRecDepth 100000 in
set_option maxHeartbeats 4000000 in
theorem kX2_find {l : Launch} {G : Gt} {n : Nat} {Sh : Sp} {M : Mm} {a0 : Nat} {a1 : Int32} (hT : Sh a0 = some (.inl 2)) {r : Int32} (h : fX2_find n Sh M a0 a1 = some r) : Ct l yX2_find cX2_find 3 (some .int) rmX2_find G Sh M [.ref a0, .int a1] (some (.int r)) M := by
  refine Ct.of (by decide) (Nat.le_of_ble_eq_true rfl) ?_
  intro p e s m args below meth c ls C hK hX hP hS hb hlk hr hl
  replace hl : lv_has ls 3 [(0, .ref a0), (1, .int a1)] := hl
  have J2 : ∀ (k : Nat) (v2 : Int32) (H : Heap) (locs : List Loc) (ls : Array Slot), HM G Sh M H → SS G s s.heap.size H locs → lv_has ls 3 [(0, .ref a0), (1, .int a1), (2, .int v2)] → iter k (fun s => fX2_find_2b n Sh M a0 a1 s) v2 = some r → W p l e rmX2_find s m args below meth c H locs 0 0 (MQ below (QG G Sh M (some (.int r))) args s rmX2_find.cells rmX2_find.slots (AA G)) (F0 m 2 ls []) := by
    intro k
    induction k with
    | zero => intro v2 H locs ls hP hS hl h; exact (iter_0 h).elim
    | succ k ih1 =>
      intro v2 H locs ls hP hS hl h
      obtain ⟨z1, h, hz1⟩ := iter_some h
      replace h : fX2_find_2b n Sh M a0 a1 v2 = some z1 := h
      unfold fX2_find_2b at h
      refine lv_iload_n C.1 C.2.1 dX2_find_2 rfl (lv_at hl 2 rfl) ?_
      refine lv_aload_n C.1 C.2.1 dX2_find_3 rfl (lv_at hl 0 rfl) ?_
      refine r_tI C hK hP hT cl_2 (k := 3) (by decide) wd_240 rfl dX2_find_4 h (fun x1 h => ?_)
      refine b_ige (tgt := 27) C dX2_find_7 (by decide) h (fun h => ?_) (fun h => ?_)
      · refine lv_aload_n C.1 C.2.1 dX2_find_10 rfl (lv_at hl 0 rfl) ?_
        refine lv_iload_n C.1 C.2.1 dX2_find_11 rfl (lv_at hl 2 rfl) ?_
        obtain ⟨r2, hc, h⟩ := bS h
        refine r_V1 C hK hX hb hP hS hl.1 (kX2_at (hT) hc) hT cl_2 wd_432 mo_X2_at wd_375 wd_376 ⟨Nat.le_of_ble_eq_true rfl, Nat.le_of_ble_eq_true rfl⟩ ⟨Nat.le_of_ble_eq_true rfl, Nat.le_of_ble_eq_true rfl⟩ rfl (rest := []) rfl (Nat.le_of_ble_eq_true rfl) dX2_find_12 (fun H locs hP hS => ?_)
        refine lv_iload_n C.1 C.2.1 dX2_find_15 rfl (lv_at hl 1 rfl) ?_
        refine b_ine (tgt := 21) C dX2_find_16 (by decide) h (fun h => ?_) (fun h => ?_)
        · refine lv_iload_n C.1 C.2.1 dX2_find_19 rfl (lv_at hl 2 rfl) ?_
          have e := Option.some.inj h
          rw [← e] at hz1
          replace e := itK_inr hz1
          exact q_i C hlk hP hS hr (by rw [← e]) rfl dX2_find_20
        · refine lv_iinc (v := (v2 + 1)) (lv' := [(2, .int (v2 + 1)), (0, .ref a0), (1, .int a1)]) C.1 C.2.1 dX2_find_21 hl (k := 2) rfl rfl (by decide) rfl (fun ls hl => ?_)
          refine lv_goto (tgt := 2) C.1 C.2.1 dX2_find_24 (by decide) ?_
          have e := Option.some.inj h
          rw [← e] at hz1
          exact ih1 ((v2 + 1)) _ _ _ hP hS (lv_sub hl [1, 2, 0] rfl) (itK_inl hz1)
      · refine lv_iconst (v := (-1)) C.1 C.2.1 dX2_find_27 (by decide) ?_
        have e := Option.some.inj h
        rw [← e] at hz1
        replace e := itK_inr hz1
        exact q_i C hlk hP hS hr (by rw [← e]) rfl dX2_find_28
  unfold fX2_find at h
  refine lv_iconst (v := 0) C.1 C.2.1 dX2_find_0 (by decide) ?_
  refine lv_istore_n (lv' := [(2, .int 0), (0, .ref a0), (1, .int a1)]) C.1 C.2.1 dX2_find_1 rfl hl (by decide) rfl (fun ls hl => ?_)
  exact J2  n (0) _ _ _ hP hS (lv_sub hl [1, 2, 0] rfl) h
theorem dX2_beside_0 : decode cX2_beside 0 = .ok (.aload_n 0, 1) := by decide +kernel
theorem dX2_beside_1 : decode cX2_beside 1 = .ok (.iload_n 1, 1) := by decide +kernel
theorem dX2_beside_2 : decode cX2_beside 2 = .ok (.invokevirtual 57, 3) := by decide +kernel
theorem dX2_beside_5 : decode cX2_beside 5 = .ok (.istore_n 3, 1) := by decide +kernel
theorem dX2_beside_6 : decode cX2_beside 6 = .ok (.iload_n 2, 1) := by decide +kernel
theorem dX2_beside_7 : decode cX2_beside 7 = .ok (.ifCond .eq 24, 3) := by decide +kernel
theorem dX2_beside_10 : decode cX2_beside 10 = .ok (.aload_n 0, 1) := by decide +kernel
theorem dX2_beside_11 : decode cX2_beside 11 = .ok (.iload_n 3, 1) := by decide +kernel
theorem dX2_beside_12 : decode cX2_beside 12 = .ok (.ifCond .gt 12, 3) := by decide +kernel
theorem dX2_beside_15 : decode cX2_beside 15 = .ok (.aload_n 0, 1) := by decide +kernel
theorem dX2_beside_16 : decode cX2_beside 16 = .ok (.getfield 18, 3) := by decide +kernel
theorem dX2_beside_19 : decode cX2_beside 19 = .ok (.iconst 1, 1) := by decide +kernel
theorem dX2_beside_20 : decode cX2_beside 20 = .ok (.isub, 1) := by decide +kernel
theorem dX2_beside_21 : decode cX2_beside 21 = .ok (.goto 6, 3) := by decide +kernel
theorem dX2_beside_24 : decode cX2_beside 24 = .ok (.iload_n 3, 1) := by decide +kernel
theorem dX2_beside_25 : decode cX2_beside 25 = .ok (.iconst 1, 1) := by decide +kernel
theorem dX2_beside_26 : decode cX2_beside 26 = .ok (.isub, 1) := by decide +kernel
theorem dX2_beside_27 : decode cX2_beside 27 = .ok (.invokevirtual 61, 3) := by decide +kernel
theorem dX2_beside_30 : decode cX2_beside 30 = .ok (.ireturn, 1) := by decide +kernel
theorem dX2_beside_31 : decode cX2_beside 31 = .ok (.aload_n 0, 1) := by decide +kernel
theorem dX2_beside_32 : decode cX2_beside 32 = .ok (.iload_n 3, 1) := by decide +kernel
theorem dX2_beside_33 : decode cX2_beside 33 = .ok (.iconst 1, 1) := by decide +kernel
theorem dX2_beside_34 : decode cX2_beside 34 = .ok (.iadd, 1) := by decide +kernel
theorem dX2_beside_35 : decode cX2_beside 35 = .ok (.aload_n 0, 1) := by decide +kernel
theorem dX2_beside_36 : decode cX2_beside 36 = .ok (.getfield 18, 3) := by decide +kernel
theorem dX2_beside_39 : decode cX2_beside 39 = .ok (.if_icmp .lt 7, 3) := by decide +kernel
theorem dX2_beside_42 : decode cX2_beside 42 = .ok (.iconst 0, 1) := by decide +kernel
theorem dX2_beside_43 : decode cX2_beside 43 = .ok (.goto 6, 3) := by decide +kernel
theorem dX2_beside_46 : decode cX2_beside 46 = .ok (.iload_n 3, 1) := by decide +kernel
theorem dX2_beside_47 : decode cX2_beside 47 = .ok (.iconst 1, 1) := by decide +kernel
theorem dX2_beside_48 : decode cX2_beside 48 = .ok (.iadd, 1) := by decide +kernel
theorem dX2_beside_49 : decode cX2_beside 49 = .ok (.invokevirtual 61, 3) := by decide +kernel
theorem dX2_beside_52 : decode cX2_beside 52 = .ok (.ireturn, 1) := by decide +kernel
abbrev rmX2_beside : Room := { frames := 3, cells := 0, slots := 0, locals := 83 }
noncomputable def fX2_beside_49 (n : Nat) (Sh : Sp) (M : Mm) (a0 : Nat) (a1 : Int32) (a2 : Int32) (t0 : Nat) (t1 : Int32) : Option Int32 :=
  chk (Sh t0 = some (.inl 2)) <|
  (fX2_at n Sh M t0 t1).bind fun r1 =>
  some r1
noncomputable def fX2_beside_27 (n : Nat) (Sh : Sp) (M : Mm) (a0 : Nat) (a1 : Int32) (a2 : Int32) (t0 : Nat) (t1 : Int32) : Option Int32 :=
  chk (Sh t0 = some (.inl 2)) <|
  (fX2_at n Sh M t0 t1).bind fun r2 =>
  some r2
noncomputable def fX2_beside (n : Nat) (Sh : Sp) (M : Mm) (a0 : Nat) (a1 : Int32) (a2 : Int32) : Option Int32 :=
  (fX2_find n Sh M a0 a1).bind fun r3 =>
  if a2 = 0 then
    tI M a0 3 fun x4 =>
    if (r3 + 1) < x4 then
      fX2_beside_49 n Sh M a0 a1 a2 a0 (r3 + 1)
    else
      fX2_beside_49 n Sh M a0 a1 a2 a0 0
  else
    if r3 ≤ 0 then
      tI M a0 3 fun x5 =>
      fX2_beside_27 n Sh M a0 a1 a2 a0 (x5 - 1)
    else
      fX2_beside_27 n Sh M a0 a1 a2 a0 (r3 - 1)
set_option maxRecDepth 100000 in
set_option maxHeartbeats 4000000 in
theorem kX2_beside {l : Launch} {G : Gt} {n : Nat} {Sh : Sp} {M : Mm} {a0 : Nat} {a1 : Int32} {a2 : Int32} (hT : Sh a0 = some (.inl 2)) {r : Int32} (h : fX2_beside n Sh M a0 a1 a2 = some r) : Ct l yX2_beside cX2_beside 4 (some .int) rmX2_beside G Sh M [.ref a0, .int a1, .int a2] (some (.int r)) M := by
  refine Ct.of (by decide) (Nat.le_of_ble_eq_true rfl) ?_
  intro p e s m args below meth c ls C hK hX hP hS hb hlk hr hl
  replace hl : lv_has ls 4 [(0, .ref a0), (1, .int a1), (2, .int a2)] := hl
  have J49 : ∀ (t0 : Nat) (t1 : Int32) (H : Heap) (locs : List Loc) (ls : Array Slot), HM G Sh M H → SS G s s.heap.size H locs → lv_has ls 4 [(0, .ref a0), (1, .int a1), (2, .int a2)] → fX2_beside_49 n Sh M a0 a1 a2 t0 t1 = some r → W p l e rmX2_beside s m args below meth c H locs 0 0 (MQ below (QG G Sh M (some (.int r))) args s rmX2_beside.cells rmX2_beside.slots (AA G)) (F0 m 49 ls [.int t1, .ref t0]) := by
    intro t0 t1 H locs ls hP hS hl h
    unfold fX2_beside_49 at h
    obtain ⟨hs, h⟩ := chk_some h
    obtain ⟨r1, hc, h⟩ := bS h
    refine r_V1 C hK hX hb hP hS hl.1 (kX2_at (hs) hc) hs cl_2 wd_432 mo_X2_at wd_375 wd_376 ⟨Nat.le_of_ble_eq_true rfl, Nat.le_of_ble_eq_true rfl⟩ ⟨Nat.le_of_ble_eq_true rfl, Nat.le_of_ble_eq_true rfl⟩ rfl (rest := []) rfl (Nat.le_of_ble_eq_true rfl) dX2_beside_49 (fun H locs hP hS => ?_)
    have e := Option.some.inj h
    exact q_i C hlk hP hS hr (by rw [← e]) rfl dX2_beside_52
  have J27 : ∀ (t0 : Nat) (t1 : Int32) (H : Heap) (locs : List Loc) (ls : Array Slot), HM G Sh M H → SS G s s.heap.size H locs → lv_has ls 4 [(0, .ref a0), (1, .int a1), (2, .int a2)] → fX2_beside_27 n Sh M a0 a1 a2 t0 t1 = some r → W p l e rmX2_beside s m args below meth c H locs 0 0 (MQ below (QG G Sh M (some (.int r))) args s rmX2_beside.cells rmX2_beside.slots (AA G)) (F0 m 27 ls [.int t1, .ref t0]) := by
    intro t0 t1 H locs ls hP hS hl h
    unfold fX2_beside_27 at h
    obtain ⟨hs, h⟩ := chk_some h
    obtain ⟨r2, hc, h⟩ := bS h
    refine r_V1 C hK hX hb hP hS hl.1 (kX2_at (hs) hc) hs cl_2 wd_432 mo_X2_at wd_375 wd_376 ⟨Nat.le_of_ble_eq_true rfl, Nat.le_of_ble_eq_true rfl⟩ ⟨Nat.le_of_ble_eq_true rfl, Nat.le_of_ble_eq_true rfl⟩ rfl (rest := []) rfl (Nat.le_of_ble_eq_true rfl) dX2_beside_27 (fun H locs hP hS => ?_)
    have e := Option.some.inj h
    exact q_i C hlk hP hS hr (by rw [← e]) rfl dX2_beside_30
  unfold fX2_beside at h
  refine lv_aload_n C.1 C.2.1 dX2_beside_0 rfl (lv_at hl 0 rfl) ?_
  refine lv_iload_n C.1 C.2.1 dX2_beside_1 rfl (lv_at hl 1 rfl) ?_
  obtain ⟨r3, hc, h⟩ := bS h
  refine r_V1 C hK hX hb hP hS hl.1 (kX2_find (hT) hc) hT cl_2 wd_428 mo_X2_find wd_430 wd_4 ⟨Nat.le_of_ble_eq_true rfl, Nat.le_of_ble_eq_true rfl⟩ ⟨Nat.le_of_ble_eq_true rfl, Nat.le_of_ble_eq_true rfl⟩ rfl (rest := []) rfl (Nat.le_of_ble_eq_true rfl) dX2_beside_2 (fun H locs hP hS => ?_)
  refine lv_istore_n (lv' := [(3, .int r3), (0, .ref a0), (1, .int a1), (2, .int a2)]) C.1 C.2.1 dX2_beside_5 rfl hl (by decide) rfl (fun ls hl => ?_)
  refine lv_iload_n C.1 C.2.1 dX2_beside_6 rfl (lv_at hl 3 rfl) ?_
  refine b_eq (tgt := 31) C dX2_beside_7 (by decide) h (fun h => ?_) (fun h => ?_)
  · refine lv_aload_n C.1 C.2.1 dX2_beside_31 rfl (lv_at hl 1 rfl) ?_
    refine lv_iload_n C.1 C.2.1 dX2_beside_32 rfl (lv_at hl 0 rfl) ?_
    refine lv_iconst (v := 1) C.1 C.2.1 dX2_beside_33 (by decide) ?_
    refine lv_iadd C.1 C.2.1 dX2_beside_34 ?_
    refine lv_aload_n C.1 C.2.1 dX2_beside_35 rfl (lv_at hl 1 rfl) ?_
    refine r_tI C hK hP hT cl_2 (k := 3) (by decide) wd_240 rfl dX2_beside_36 h (fun x4 h => ?_)
    refine b_ilt (tgt := 46) C dX2_beside_39 (by decide) h (fun h => ?_) (fun h => ?_)
    · refine lv_iload_n C.1 C.2.1 dX2_beside_46 rfl (lv_at hl 0 rfl) ?_
      refine lv_iconst (v := 1) C.1 C.2.1 dX2_beside_47 (by decide) ?_
      refine lv_iadd C.1 C.2.1 dX2_beside_48 ?_
      exact J49 (a0) ((r3 + 1)) _ _ _ hP hS (lv_sub hl [1, 2, 3] rfl) h
    · refine lv_iconst (v := 0) C.1 C.2.1 dX2_beside_42 (by decide) ?_
      refine lv_goto (tgt := 49) C.1 C.2.1 dX2_beside_43 (by decide) ?_
      exact J49 (a0) (0) _ _ _ hP hS (lv_sub hl [1, 2, 3] rfl) h
  · refine lv_aload_n C.1 C.2.1 dX2_beside_10 rfl (lv_at hl 1 rfl) ?_
    refine lv_iload_n C.1 C.2.1 dX2_beside_11 rfl (lv_at hl 0 rfl) ?_
    refine b_gt (tgt := 24) C dX2_beside_12 (by decide) h (fun h => ?_) (fun h => ?_)
    · refine lv_aload_n C.1 C.2.1 dX2_beside_15 rfl (lv_at hl 1 rfl) ?_
      refine r_tI C hK hP hT cl_2 (k := 3) (by decide) wd_240 rfl dX2_beside_16 h (fun x5 h => ?_)
      refine lv_iconst (v := 1) C.1 C.2.1 dX2_beside_19 (by decide) ?_
      refine lv_isub C.1 C.2.1 dX2_beside_20 ?_
      refine lv_goto (tgt := 27) C.1 C.2.1 dX2_beside_21 (by decide) ?_
      exact J27 (a0) ((x5 - 1)) _ _ _ hP hS (lv_sub hl [1, 2, 3] rfl) h
    · refine lv_iload_n C.1 C.2.1 dX2_beside_24 rfl (lv_at hl 0 rfl) ?_
      refine lv_iconst (v := 1) C.1 C.2.1 dX2_beside_25 (by decide) ?_
      refine lv_isub C.1 C.2.1 dX2_beside_26 ?_
      exact J27 (a0) ((r3 - 1)) _ _ _ hP hS (lv_sub hl [1, 2, 3] rfl) h
theorem dX3_copyFrom_0 : decode cX3_copyFrom 0 = .ok (.aload_n 0, 1) := by decide +kernel
theorem dX3_copyFrom_1 : decode cX3_copyFrom 1 = .ok (.getfield 12, 3) := by decide +kernel
theorem dX3_copyFrom_4 : decode cX3_copyFrom 4 = .ok (.aload_n 1, 1) := by decide +kernel
theorem dX3_copyFrom_5 : decode cX3_copyFrom 5 = .ok (.getfield 12, 3) := by decide +kernel
theorem dX3_copyFrom_8 : decode cX3_copyFrom 8 = .ok (.invokevirtual 41, 3) := by decide +kernel
theorem dX3_copyFrom_11 : decode cX3_copyFrom 11 = .ok (.aload_n 0, 1) := by decide +kernel
theorem dX3_copyFrom_12 : decode cX3_copyFrom 12 = .ok (.getfield 21, 3) := by decide +kernel
theorem dX3_copyFrom_15 : decode cX3_copyFrom 15 = .ok (.aload_n 1, 1) := by decide +kernel
theorem dX3_copyFrom_16 : decode cX3_copyFrom 16 = .ok (.getfield 21, 3) := by decide +kernel
theorem dX3_copyFrom_19 : decode cX3_copyFrom 19 = .ok (.invokevirtual 45, 3) := by decide +kernel
theorem dX3_copyFrom_22 : decode cX3_copyFrom 22 = .ok (.aload_n 0, 1) := by decide +kernel
theorem dX3_copyFrom_23 : decode cX3_copyFrom 23 = .ok (.getfield 30, 3) := by decide +kernel
theorem dX3_copyFrom_26 : decode cX3_copyFrom 26 = .ok (.aload_n 1, 1) := by decide +kernel
theorem dX3_copyFrom_27 : decode cX3_copyFrom 27 = .ok (.getfield 30, 3) := by decide +kernel
theorem dX3_copyFrom_30 : decode cX3_copyFrom 30 = .ok (.invokevirtual 48, 3) := by decide +kernel
theorem dX3_copyFrom_33 : decode cX3_copyFrom 33 = .ok (.aload_n 0, 1) := by decide +kernel
theorem dX3_copyFrom_34 : decode cX3_copyFrom 34 = .ok (.aload_n 1, 1) := by decide +kernel
theorem dX3_copyFrom_35 : decode cX3_copyFrom 35 = .ok (.getfield 34, 3) := by decide +kernel
theorem dX3_copyFrom_38 : decode cX3_copyFrom 38 = .ok (.putfield 34, 3) := by decide +kernel
theorem dX3_copyFrom_41 : decode cX3_copyFrom 41 = .ok (.aload_n 0, 1) := by decide +kernel
theorem dX3_copyFrom_42 : decode cX3_copyFrom 42 = .ok (.aload_n 1, 1) := by decide +kernel
theorem dX3_copyFrom_43 : decode cX3_copyFrom 43 = .ok (.getfield 38, 3) := by decide +kernel
theorem dX3_copyFrom_46 : decode cX3_copyFrom 46 = .ok (.putfield 38, 3) := by decide +kernel
theorem dX3_copyFrom_49 : decode cX3_copyFrom 49 = .ok (.return_, 1) := by decide +kernel
abbrev rmX3_copyFrom : Room := { frames := 3, cells := 0, slots := 0, locals := 83 }
noncomputable def fX3_copyFrom (n : Nat) (Sh : Sp) (M : Mm) (a0 : Nat) (a1 : Nat) : Option Mm :=
  tF M a0 0 fun b1 =>
  gF Sh M a1 3 0 fun b2 =>
  chk (Sh b1 = some (.inl 4)) <|
  (fX4_copyFrom n Sh M b1 b2).bind fun r3 =>
  tF r3 a0 1 fun b4 =>
  gF Sh r3 a1 3 1 fun b5 =>
  chk (Sh b4 = some (.inl 1)) <|
  (fX1_copyFrom n Sh r3 b4 b5).bind fun r6 =>
  tF r6 a0 2 fun b7 =>
  gF Sh r6 a1 3 2 fun b8 =>
  chk (Sh b7 = some (.inl 5)) <|
  (fX5_become n Sh r6 b7 b8).bind fun r9 =>
  gI Sh r9 a1 3 3 fun x10 =>
  qI r9 a0 3 x10 fun M11 =>
  gI Sh M11 a1 3 4 fun x12 =>
  qI M11 a0 4 x12 fun M13 =>
  some M13
set_option maxRecDepth 100000 in
set_option maxHeartbeats 4000000 in
theorem kX3_copyFrom {l : Launch} {G : Gt} {n : Nat} {Sh : Sp} {M : Mm} {a0 : Nat} {a1 : Nat} (hT : Sh a0 = some (.inl 3)) {r : Mm} (h : fX3_copyFrom n Sh M a0 a1 = some r) : Ct l yX3_copyFrom cX3_copyFrom 2 none rmX3_copyFrom G Sh M [.ref a0, .ref a1] none r := by
  refine Ct.of (by decide) (Nat.le_of_ble_eq_true rfl) ?_
  intro p e s m args below meth c ls C hK hX hP hS hb hlk hr hl
  replace hl : lv_has ls 2 [(0, .ref a0), (1, .ref a1)] := hl
  unfold fX3_copyFrom at h
  refine lv_aload_n C.1 C.2.1 dX3_copyFrom_0 rfl (lv_at hl 0 rfl) ?_
  refine r_tF C hK hP hT cl_3 (k := 0) (by decide) wd_208 rfl dX3_copyFrom_1 h (fun b1 h => ?_)
  refine lv_aload_n C.1 C.2.1 dX3_copyFrom_4 rfl (lv_at hl 1 rfl) ?_
  refine r_gF C hK hP cl_3 (k := 0) (by decide) wd_208 rfl dX3_copyFrom_5 h (fun b2 h => ?_)
  obtain ⟨hs, h⟩ := chk_some h
  obtain ⟨r3, hc, h⟩ := bS h
  refine r_V0 C hK hX hb hP hS hl.1 (kX4_copyFrom (hs) hc) hs cl_4 wd_402 mo_X4_copyFrom wd_403 wd_404 ⟨Nat.le_of_ble_eq_true rfl, Nat.le_of_ble_eq_true rfl⟩ ⟨Nat.le_of_ble_eq_true rfl, Nat.le_of_ble_eq_true rfl⟩ rfl (rest := []) rfl (Nat.le_of_ble_eq_true rfl) dX3_copyFrom_8 (fun H locs hP hS => ?_)
  refine lv_aload_n C.1 C.2.1 dX3_copyFrom_11 rfl (lv_at hl 0 rfl) ?_
  refine r_tF C hK hP hT cl_3 (k := 1) (by decide) wd_211 rfl dX3_copyFrom_12 h (fun b4 h => ?_)
  refine lv_aload_n C.1 C.2.1 dX3_copyFrom_15 rfl (lv_at hl 1 rfl) ?_
  refine r_gF C hK hP cl_3 (k := 1) (by decide) wd_211 rfl dX3_copyFrom_16 h (fun b5 h => ?_)
  obtain ⟨hs, h⟩ := chk_some h
  obtain ⟨r6, hc, h⟩ := bS h
  refine r_V0 C hK hX hb hP hS hl.1 (kX1_copyFrom (hs) hc) hs cl_1 wd_417 mo_X1_copyFrom wd_418 wd_419 ⟨Nat.le_of_ble_eq_true rfl, Nat.le_of_ble_eq_true rfl⟩ ⟨Nat.le_of_ble_eq_true rfl, Nat.le_of_ble_eq_true rfl⟩ rfl (rest := []) rfl (Nat.le_of_ble_eq_true rfl) dX3_copyFrom_19 (fun H locs hP hS => ?_)
  refine lv_aload_n C.1 C.2.1 dX3_copyFrom_22 rfl (lv_at hl 0 rfl) ?_
  refine r_tF C hK hP hT cl_3 (k := 2) (by decide) wd_213 rfl dX3_copyFrom_23 h (fun b7 h => ?_)
  refine lv_aload_n C.1 C.2.1 dX3_copyFrom_26 rfl (lv_at hl 1 rfl) ?_
  refine r_gF C hK hP cl_3 (k := 2) (by decide) wd_213 rfl dX3_copyFrom_27 h (fun b8 h => ?_)
  obtain ⟨hs, h⟩ := chk_some h
  obtain ⟨r9, hc, h⟩ := bS h
  refine r_V0 C hK hX hb hP hS hl.1 (kX5_become (hs) hc) hs cl_5 wd_423 mo_X5_become wd_410 wd_411 ⟨Nat.le_of_ble_eq_true rfl, Nat.le_of_ble_eq_true rfl⟩ ⟨Nat.le_of_ble_eq_true rfl, Nat.le_of_ble_eq_true rfl⟩ rfl (rest := []) rfl (Nat.le_of_ble_eq_true rfl) dX3_copyFrom_30 (fun H locs hP hS => ?_)
  refine lv_aload_n C.1 C.2.1 dX3_copyFrom_33 rfl (lv_at hl 0 rfl) ?_
  refine lv_aload_n C.1 C.2.1 dX3_copyFrom_34 rfl (lv_at hl 1 rfl) ?_
  refine r_gI C hK hP cl_3 (k := 3) (by decide) wd_215 rfl dX3_copyFrom_35 h (fun x10 h => ?_)
  refine r_qI C hK hP hS hT cl_3 (k := 3) (by decide) wd_215 rfl rfl (tyX3_ok 3 (by decide)) dX3_copyFrom_38 h (fun M11 H locs h hP hS => ?_)
  refine lv_aload_n C.1 C.2.1 dX3_copyFrom_41 rfl (lv_at hl 0 rfl) ?_
  refine lv_aload_n C.1 C.2.1 dX3_copyFrom_42 rfl (lv_at hl 1 rfl) ?_
  refine r_gI C hK hP cl_3 (k := 4) (by decide) wd_218 rfl dX3_copyFrom_43 h (fun x12 h => ?_)
  refine r_qI C hK hP hS hT cl_3 (k := 4) (by decide) wd_218 rfl rfl (tyX3_ok 4 (by decide)) dX3_copyFrom_46 h (fun M13 H locs h hP hS => ?_)
  have e := Option.some.inj h
  exact q_v C hlk hP hS hr rfl e.symm dX3_copyFrom_49
theorem dX3_forget_0 : decode cX3_forget 0 = .ok (.aload_n 0, 1) := by decide +kernel
theorem dX3_forget_1 : decode cX3_forget 1 = .ok (.getfield 12, 3) := by decide +kernel
theorem dX3_forget_4 : decode cX3_forget 4 = .ok (.iload_n 1, 1) := by decide +kernel
theorem dX3_forget_5 : decode cX3_forget 5 = .ok (.invokevirtual 52, 3) := by decide +kernel
theorem dX3_forget_8 : decode cX3_forget 8 = .ok (.aload_n 0, 1) := by decide +kernel
theorem dX3_forget_9 : decode cX3_forget 9 = .ok (.getfield 21, 3) := by decide +kernel
theorem dX3_forget_12 : decode cX3_forget 12 = .ok (.iload_n 1, 1) := by decide +kernel
theorem dX3_forget_13 : decode cX3_forget 13 = .ok (.invokevirtual 55, 3) := by decide +kernel
theorem dX3_forget_16 : decode cX3_forget 16 = .ok (.iload_n 1, 1) := by decide +kernel
theorem dX3_forget_17 : decode cX3_forget 17 = .ok (.aload_n 0, 1) := by decide +kernel
theorem dX3_forget_18 : decode cX3_forget 18 = .ok (.getfield 34, 3) := by decide +kernel
theorem dX3_forget_21 : decode cX3_forget 21 = .ok (.invokestatic 58, 3) := by decide +kernel
theorem dX3_forget_24 : decode cX3_forget 24 = .ok (.ifCond .eq 8, 3) := by decide +kernel
theorem dX3_forget_27 : decode cX3_forget 27 = .ok (.aload_n 0, 1) := by decide +kernel
theorem dX3_forget_28 : decode cX3_forget 28 = .ok (.iconst (-1), 1) := by decide +kernel
theorem dX3_forget_29 : decode cX3_forget 29 = .ok (.putfield 34, 3) := by decide +kernel
theorem dX3_forget_32 : decode cX3_forget 32 = .ok (.iload_n 1, 1) := by decide +kernel
theorem dX3_forget_33 : decode cX3_forget 33 = .ok (.aload_n 0, 1) := by decide +kernel
theorem dX3_forget_34 : decode cX3_forget 34 = .ok (.getfield 38, 3) := by decide +kernel
theorem dX3_forget_37 : decode cX3_forget 37 = .ok (.invokestatic 58, 3) := by decide +kernel
theorem dX3_forget_40 : decode cX3_forget 40 = .ok (.ifCond .eq 8, 3) := by decide +kernel
theorem dX3_forget_43 : decode cX3_forget 43 = .ok (.aload_n 0, 1) := by decide +kernel
theorem dX3_forget_44 : decode cX3_forget 44 = .ok (.iconst (-1), 1) := by decide +kernel
theorem dX3_forget_45 : decode cX3_forget 45 = .ok (.putfield 38, 3) := by decide +kernel
theorem dX3_forget_48 : decode cX3_forget 48 = .ok (.return_, 1) := by decide +kernel
abbrev rmX3_forget : Room := { frames := 5, cells := 0, slots := 0, locals := 131 }
noncomputable def fX3_forget_32 (n : Nat) (Sh : Sp) (a0 : Nat) (a1 : Int32) (M : Mm) : Option Mm :=
  tI M a0 4 fun x1 =>
  (fX6_isIn n Sh M a1 x1).bind fun r2 =>
  if r2 = 0 then
    some M
  else
    qI M a0 4 (-1) fun M3 =>
    some M3
noncomputable def fX3_forget (n : Nat) (Sh : Sp) (M : Mm) (a0 : Nat) (a1 : Int32) : Option Mm :=
  tF M a0 0 fun b4 =>
  chk (Sh b4 = some (.inl 4)) <|
  (fX4_drop n Sh M b4 a1).bind fun r5 =>
  tF r5 a0 1 fun b6 =>
  chk (Sh b6 = some (.inl 1)) <|
  (fX1_dropNodes n Sh r5 b6 a1).bind fun r7 =>
  tI r7 a0 3 fun x8 =>
  (fX6_isIn n Sh r7 a1 x8).bind fun r9 =>
  if r9 = 0 then
    fX3_forget_32 n Sh a0 a1 r7
  else
    qI r7 a0 3 (-1) fun M10 =>
    fX3_forget_32 n Sh a0 a1 M10
set_option maxRecDepth 100000 in
set_option maxHeartbeats 4000000 in
theorem kX3_forget {l : Launch} {G : Gt} {n : Nat} {Sh : Sp} {M : Mm} {a0 : Nat} {a1 : Int32} (hT : Sh a0 = some (.inl 3)) {r : Mm} (h : fX3_forget n Sh M a0 a1 = some r) : Ct l yX3_forget cX3_forget 2 none rmX3_forget G Sh M [.ref a0, .int a1] none r := by
  refine Ct.of (by decide) (Nat.le_of_ble_eq_true rfl) ?_
  intro p e s m args below meth c ls C hK hX hP hS hb hlk hr hl
  replace hl : lv_has ls 2 [(0, .ref a0), (1, .int a1)] := hl
  have J32 : ∀ (M : Mm) (H : Heap) (locs : List Loc) (ls : Array Slot), HM G Sh M H → SS G s s.heap.size H locs → lv_has ls 2 [(0, .ref a0), (1, .int a1)] → fX3_forget_32 n Sh a0 a1 M = some r → W p l e rmX3_forget s m args below meth c H locs 0 0 (MQ below (QG G Sh r none) args s rmX3_forget.cells rmX3_forget.slots (AA G)) (F0 m 32 ls []) := by
    intro M H locs ls hP hS hl h
    unfold fX3_forget_32 at h
    refine lv_iload_n C.1 C.2.1 dX3_forget_32 rfl (lv_at hl 1 rfl) ?_
    refine lv_aload_n C.1 C.2.1 dX3_forget_33 rfl (lv_at hl 0 rfl) ?_
    refine r_tI C hK hP hT cl_3 (k := 4) (by decide) wd_218 rfl dX3_forget_34 h (fun x1 h => ?_)
    obtain ⟨r2, hc, h⟩ := bS h
    refine r_SN1 C hK hX hb hP hS hl.1 (kX6_isIn hc) (hX.nws wd_814) mo_X6_isIn wd_803 ⟨Nat.le_of_ble_eq_true rfl, Nat.le_of_ble_eq_true rfl⟩ ⟨Nat.le_of_ble_eq_true rfl, Nat.le_of_ble_eq_true rfl⟩ rfl (rest := []) rfl (Nat.le_of_ble_eq_true rfl) dX3_forget_37 (fun H locs hP hS => ?_)
    refine b_eq (tgt := 48) C dX3_forget_40 (by decide) h (fun h => ?_) (fun h => ?_)
    · have e := Option.some.inj h
      exact q_v C hlk hP hS hr rfl e.symm dX3_forget_48
    · refine lv_aload_n C.1 C.2.1 dX3_forget_43 rfl (lv_at hl 0 rfl) ?_
      refine lv_iconst (v := (-1)) C.1 C.2.1 dX3_forget_44 (by decide) ?_
      refine r_qI C hK hP hS hT cl_3 (k := 4) (by decide) wd_218 rfl rfl (tyX3_ok 4 (by decide)) dX3_forget_45 h (fun M3 H locs h hP hS => ?_)
      have e := Option.some.inj h
      exact q_v C hlk hP hS hr rfl e.symm dX3_forget_48
  unfold fX3_forget at h
  refine lv_aload_n C.1 C.2.1 dX3_forget_0 rfl (lv_at hl 0 rfl) ?_
  refine r_tF C hK hP hT cl_3 (k := 0) (by decide) wd_208 rfl dX3_forget_1 h (fun b4 h => ?_)
  refine lv_iload_n C.1 C.2.1 dX3_forget_4 rfl (lv_at hl 1 rfl) ?_
  obtain ⟨hs, h⟩ := chk_some h
  obtain ⟨r5, hc, h⟩ := bS h
  refine r_V0 C hK hX hb hP hS hl.1 (kX4_drop (hs) hc) hs cl_4 wd_798 mo_X4_drop wd_799 wd_800 ⟨Nat.le_of_ble_eq_true rfl, Nat.le_of_ble_eq_true rfl⟩ ⟨Nat.le_of_ble_eq_true rfl, Nat.le_of_ble_eq_true rfl⟩ rfl (rest := []) rfl (Nat.le_of_ble_eq_true rfl) dX3_forget_5 (fun H locs hP hS => ?_)
  refine lv_aload_n C.1 C.2.1 dX3_forget_8 rfl (lv_at hl 0 rfl) ?_
  refine r_tF C hK hP hT cl_3 (k := 1) (by decide) wd_211 rfl dX3_forget_9 h (fun b6 h => ?_)
  refine lv_iload_n C.1 C.2.1 dX3_forget_12 rfl (lv_at hl 1 rfl) ?_
  obtain ⟨hs, h⟩ := chk_some h
  obtain ⟨r7, hc, h⟩ := bS h
  refine r_V0 C hK hX hb hP hS hl.1 (kX1_dropNodes (hs) hc) hs cl_1 wd_809 mo_X1_dropNodes wd_810 wd_811 ⟨Nat.le_of_ble_eq_true rfl, Nat.le_of_ble_eq_true rfl⟩ ⟨Nat.le_of_ble_eq_true rfl, Nat.le_of_ble_eq_true rfl⟩ rfl (rest := []) rfl (Nat.le_of_ble_eq_true rfl) dX3_forget_13 (fun H locs hP hS => ?_)
  refine lv_iload_n C.1 C.2.1 dX3_forget_16 rfl (lv_at hl 1 rfl) ?_
  refine lv_aload_n C.1 C.2.1 dX3_forget_17 rfl (lv_at hl 0 rfl) ?_
  refine r_tI C hK hP hT cl_3 (k := 3) (by decide) wd_215 rfl dX3_forget_18 h (fun x8 h => ?_)
  obtain ⟨r9, hc, h⟩ := bS h
  refine r_SN1 C hK hX hb hP hS hl.1 (kX6_isIn hc) (hX.nws wd_814) mo_X6_isIn wd_803 ⟨Nat.le_of_ble_eq_true rfl, Nat.le_of_ble_eq_true rfl⟩ ⟨Nat.le_of_ble_eq_true rfl, Nat.le_of_ble_eq_true rfl⟩ rfl (rest := []) rfl (Nat.le_of_ble_eq_true rfl) dX3_forget_21 (fun H locs hP hS => ?_)
  refine b_eq (tgt := 32) C dX3_forget_24 (by decide) h (fun h => ?_) (fun h => ?_)
  · exact J32 (r7) _ _ _ hP hS (lv_sub hl [0, 1] rfl) h
  · refine lv_aload_n C.1 C.2.1 dX3_forget_27 rfl (lv_at hl 0 rfl) ?_
    refine lv_iconst (v := (-1)) C.1 C.2.1 dX3_forget_28 (by decide) ?_
    refine r_qI C hK hP hS hT cl_3 (k := 3) (by decide) wd_215 rfl rfl (tyX3_ok 3 (by decide)) dX3_forget_29 h (fun M10 H locs h hP hS => ?_)
    exact J32 (M10) _ _ _ hP hS (lv_sub hl [0, 1] rfl) h
theorem dX3_giveFocus_0 : decode cX3_giveFocus 0 = .ok (.aload_n 0, 1) := by decide +kernel
theorem dX3_giveFocus_1 : decode cX3_giveFocus 1 = .ok (.iload_n 1, 1) := by decide +kernel
theorem dX3_giveFocus_2 : decode cX3_giveFocus 2 = .ok (.putfield 34, 3) := by decide +kernel
theorem dX3_giveFocus_5 : decode cX3_giveFocus 5 = .ok (.aload_n 0, 1) := by decide +kernel
theorem dX3_giveFocus_6 : decode cX3_giveFocus 6 = .ok (.getfield 21, 3) := by decide +kernel
theorem dX3_giveFocus_9 : decode cX3_giveFocus 9 = .ok (.invokevirtual 62, 3) := by decide +kernel
theorem dX3_giveFocus_12 : decode cX3_giveFocus 12 = .ok (.aload_n 2, 1) := by decide +kernel
theorem dX3_giveFocus_13 : decode cX3_giveFocus 13 = .ok (.invokevirtual 65, 3) := by decide +kernel
theorem dX3_giveFocus_16 : decode cX3_giveFocus 16 = .ok (.aload_n 0, 1) := by decide +kernel
theorem dX3_giveFocus_17 : decode cX3_giveFocus 17 = .ok (.getfield 12, 3) := by decide +kernel
theorem dX3_giveFocus_20 : decode cX3_giveFocus 20 = .ok (.iload_n 1, 1) := by decide +kernel
theorem dX3_giveFocus_21 : decode cX3_giveFocus 21 = .ok (.aload_n 2, 1) := by decide +kernel
theorem dX3_giveFocus_22 : decode cX3_giveFocus 22 = .ok (.invokevirtual 68, 3) := by decide +kernel
theorem dX3_giveFocus_25 : decode cX3_giveFocus 25 = .ok (.aload_n 2, 1) := by decide +kernel
theorem dX3_giveFocus_26 : decode cX3_giveFocus 26 = .ok (.getfield 72, 3) := by decide +kernel
theorem dX3_giveFocus_29 : decode cX3_giveFocus 29 = .ok (.ifCond .le 14, 3) := by decide +kernel
theorem dX3_giveFocus_32 : decode cX3_giveFocus 32 = .ok (.aload_n 0, 1) := by decide +kernel
theorem dX3_giveFocus_33 : decode cX3_giveFocus 33 = .ok (.getfield 21, 3) := by decide +kernel
theorem dX3_giveFocus_36 : decode cX3_giveFocus 36 = .ok (.iconst 0, 1) := by decide +kernel
theorem dX3_giveFocus_37 : decode cX3_giveFocus 37 = .ok (.iload_n 1, 1) := by decide +kernel
theorem dX3_giveFocus_38 : decode cX3_giveFocus 38 = .ok (.iconst (-1), 1) := by decide +kernel
theorem dX3_giveFocus_39 : decode cX3_giveFocus 39 = .ok (.aload_n 2, 1) := by decide +kernel
theorem dX3_giveFocus_40 : decode cX3_giveFocus 40 = .ok (.invokevirtual 75, 3) := by decide +kernel
theorem dX3_giveFocus_43 : decode cX3_giveFocus 43 = .ok (.return_, 1) := by decide +kernel
abbrev rmX3_giveFocus : Room := { frames := 65, cells := 0, slots := 0, locals := 1643 }
noncomputable def fX3_giveFocus (n : Nat) (Sh : Sp) (M : Mm) (a0 : Nat) (a1 : Int32) (a2 : Nat) : Option Mm :=
  qI M a0 3 a1 fun M1 =>
  tF M1 a0 1 fun b2 =>
  chk (Sh b2 = some (.inl 1)) <|
  (fX1_dropFocus n Sh M1 b2).bind fun r3 =>
  chk (Sh a2 = some (.inl 5)) <|
  (fX5_empty n Sh r3 a2).bind fun r4 =>
  tF r4 a0 0 fun b5 =>
  chk (Sh b5 = some (.inl 4)) <|
  (fX4_joinPhrase n Sh r4 b5 a1 a2).bind fun r6 =>
  gI Sh r6 a2 5 1 fun x7 =>
  if x7 ≤ 0 then
    some r6
  else
    tF r6 a0 1 fun b8 =>
    chk (Sh b8 = some (.inl 1)) <|
    (fX1_append n Sh r6 b8 0 a1 (-1) a2).bind fun r9 =>
    some r9
set_option maxRecDepth 100000 in
set_option maxHeartbeats 4000000 in
theorem kX3_giveFocus {l : Launch} {G : Gt} {n : Nat} {Sh : Sp} {M : Mm} {a0 : Nat} {a1 : Int32} {a2 : Nat} (hT : Sh a0 = some (.inl 3)) {r : Mm} (h : fX3_giveFocus n Sh M a0 a1 a2 = some r) : Ct l yX3_giveFocus cX3_giveFocus 3 none rmX3_giveFocus G Sh M [.ref a0, .int a1, .ref a2] none r := by
  refine Ct.of (by decide) (Nat.le_of_ble_eq_true rfl) ?_
  intro p e s m args below meth c ls C hK hX hP hS hb hlk hr hl
  replace hl : lv_has ls 3 [(0, .ref a0), (1, .int a1), (2, .ref a2)] := hl
  unfold fX3_giveFocus at h
  refine lv_aload_n C.1 C.2.1 dX3_giveFocus_0 rfl (lv_at hl 0 rfl) ?_
  refine lv_iload_n C.1 C.2.1 dX3_giveFocus_1 rfl (lv_at hl 1 rfl) ?_
  refine r_qI C hK hP hS hT cl_3 (k := 3) (by decide) wd_215 rfl rfl (tyX3_ok 3 (by decide)) dX3_giveFocus_2 h (fun M1 H locs h hP hS => ?_)
  refine lv_aload_n C.1 C.2.1 dX3_giveFocus_5 rfl (lv_at hl 0 rfl) ?_
  refine r_tF C hK hP hT cl_3 (k := 1) (by decide) wd_211 rfl dX3_giveFocus_6 h (fun b2 h => ?_)
  obtain ⟨hs, h⟩ := chk_some h
  obtain ⟨r3, hc, h⟩ := bS h
  refine r_V0 C hK hX hb hP hS hl.1 (kX1_dropFocus (hs) hc) hs cl_1 wd_437 mo_X1_dropFocus wd_438 wd_439 ⟨Nat.le_of_ble_eq_true rfl, Nat.le_of_ble_eq_true rfl⟩ ⟨Nat.le_of_ble_eq_true rfl, Nat.le_of_ble_eq_true rfl⟩ rfl (rest := []) rfl (Nat.le_of_ble_eq_true rfl) dX3_giveFocus_9 (fun H locs hP hS => ?_)
  refine lv_aload_n C.1 C.2.1 dX3_giveFocus_12 rfl (lv_at hl 2 rfl) ?_
  obtain ⟨hs, h⟩ := chk_some h
  obtain ⟨r4, hc, h⟩ := bS h
  refine r_V0 C hK hX hb hP hS hl.1 (kX5_empty (hs) hc) hs cl_5 wd_453 mo_X5_empty wd_141 wd_142 ⟨Nat.le_of_ble_eq_true rfl, Nat.le_of_ble_eq_true rfl⟩ ⟨Nat.le_of_ble_eq_true rfl, Nat.le_of_ble_eq_true rfl⟩ rfl (rest := []) rfl (Nat.le_of_ble_eq_true rfl) dX3_giveFocus_13 (fun H locs hP hS => ?_)
  refine lv_aload_n C.1 C.2.1 dX3_giveFocus_16 rfl (lv_at hl 0 rfl) ?_
  refine r_tF C hK hP hT cl_3 (k := 0) (by decide) wd_208 rfl dX3_giveFocus_17 h (fun b5 h => ?_)
  refine lv_iload_n C.1 C.2.1 dX3_giveFocus_20 rfl (lv_at hl 1 rfl) ?_
  refine lv_aload_n C.1 C.2.1 dX3_giveFocus_21 rfl (lv_at hl 2 rfl) ?_
  obtain ⟨hs, h⟩ := chk_some h
  obtain ⟨r6, hc, h⟩ := bS h
  refine r_V0 C hK hX hb hP hS hl.1 (kX4_joinPhrase (hs) hc) hs cl_4 wd_454 mo_X4_joinPhrase wd_455 wd_456 ⟨Nat.le_of_ble_eq_true rfl, Nat.le_of_ble_eq_true rfl⟩ ⟨Nat.le_of_ble_eq_true rfl, Nat.le_of_ble_eq_true rfl⟩ rfl (rest := []) rfl (Nat.le_of_ble_eq_true rfl) dX3_giveFocus_22 (fun H locs hP hS => ?_)
  refine lv_aload_n C.1 C.2.1 dX3_giveFocus_25 rfl (lv_at hl 2 rfl) ?_
  refine r_gIN C hK hP cl_5 (k := 1) (by decide) (hX.nw wd_125) rfl dX3_giveFocus_26 h (fun x7 h => ?_)
  refine b_le (tgt := 43) C dX3_giveFocus_29 (by decide) h (fun h => ?_) (fun h => ?_)
  · have e := Option.some.inj h
    exact q_v C hlk hP hS hr rfl e.symm dX3_giveFocus_43
  · refine lv_aload_n C.1 C.2.1 dX3_giveFocus_32 rfl (lv_at hl 0 rfl) ?_
    refine r_tF C hK hP hT cl_3 (k := 1) (by decide) wd_211 rfl dX3_giveFocus_33 h (fun b8 h => ?_)
    refine lv_iconst (v := 0) C.1 C.2.1 dX3_giveFocus_36 (by decide) ?_
    refine lv_iload_n C.1 C.2.1 dX3_giveFocus_37 rfl (lv_at hl 1 rfl) ?_
    refine lv_iconst (v := (-1)) C.1 C.2.1 dX3_giveFocus_38 (by decide) ?_
    refine lv_aload_n C.1 C.2.1 dX3_giveFocus_39 rfl (lv_at hl 2 rfl) ?_
    obtain ⟨hs, h⟩ := chk_some h
    obtain ⟨r9, hc, h⟩ := bS h
    refine r_V0 C hK hX hb hP hS hl.1 (kX1_append (hs) hc) hs cl_1 wd_561 mo_X1_append wd_562 wd_563 ⟨Nat.le_of_ble_eq_true rfl, Nat.le_of_ble_eq_true rfl⟩ ⟨Nat.le_of_ble_eq_true rfl, Nat.le_of_ble_eq_true rfl⟩ rfl (rest := []) rfl (Nat.le_of_ble_eq_true rfl) dX3_giveFocus_40 (fun H locs hP hS => ?_)
    have e := Option.some.inj h
    exact q_v C hlk hP hS hr rfl e.symm dX3_giveFocus_43
theorem dX3_announceChange_0 : decode cX3_announceChange 0 = .ok (.aload_n 0, 1) := by decide +kernel
theorem dX3_announceChange_1 : decode cX3_announceChange 1 = .ok (.getfield 12, 3) := by decide +kernel
theorem dX3_announceChange_4 : decode cX3_announceChange 4 = .ok (.iload_n 1, 1) := by decide +kernel
theorem dX3_announceChange_5 : decode cX3_announceChange 5 = .ok (.invokevirtual 79, 3) := by decide +kernel
theorem dX3_announceChange_8 : decode cX3_announceChange 8 = .ok (.istore_n 3, 1) := by decide +kernel
theorem dX3_announceChange_9 : decode cX3_announceChange 9 = .ok (.iload_n 3, 1) := by decide +kernel
theorem dX3_announceChange_10 : decode cX3_announceChange 10 = .ok (.iconst (-1), 1) := by decide +kernel
theorem dX3_announceChange_11 : decode cX3_announceChange 11 = .ok (.if_icmp .eq 14, 3) := by decide +kernel
theorem dX3_announceChange_14 : decode cX3_announceChange 14 = .ok (.aload_n 0, 1) := by decide +kernel
theorem dX3_announceChange_15 : decode cX3_announceChange 15 = .ok (.getfield 12, 3) := by decide +kernel
theorem dX3_announceChange_18 : decode cX3_announceChange 18 = .ok (.iload_n 1, 1) := by decide +kernel
theorem dX3_announceChange_19 : decode cX3_announceChange 19 = .ok (.invokevirtual 83, 3) := by decide +kernel
theorem dX3_announceChange_22 : decode cX3_announceChange 22 = .ok (.ifCond .ne 4, 3) := by decide +kernel
theorem dX3_announceChange_25 : decode cX3_announceChange 25 = .ok (.return_, 1) := by decide +kernel
theorem dX3_announceChange_26 : decode cX3_announceChange 26 = .ok (.aload_n 0, 1) := by decide +kernel
theorem dX3_announceChange_27 : decode cX3_announceChange 27 = .ok (.getfield 12, 3) := by decide +kernel
theorem dX3_announceChange_30 : decode cX3_announceChange 30 = .ok (.iload_n 3, 1) := by decide +kernel
theorem dX3_announceChange_31 : decode cX3_announceChange 31 = .ok (.iconst 4, 1) := by decide +kernel
theorem dX3_announceChange_32 : decode cX3_announceChange 32 = .ok (.invokevirtual 87, 3) := by decide +kernel
theorem dX3_announceChange_35 : decode cX3_announceChange 35 = .ok (.iconst 1, 1) := by decide +kernel
theorem dX3_announceChange_36 : decode cX3_announceChange 36 = .ok (.if_icmp .ne 7, 3) := by decide +kernel
theorem dX3_announceChange_39 : decode cX3_announceChange 39 = .ok (.iload_n 3, 1) := by decide +kernel
theorem dX3_announceChange_40 : decode cX3_announceChange 40 = .ok (.goto 4, 3) := by decide +kernel
theorem dX3_announceChange_43 : decode cX3_announceChange 43 = .ok (.iload_n 1, 1) := by decide +kernel
theorem dX3_announceChange_44 : decode cX3_announceChange 44 = .ok (.istore 4, 2) := by decide +kernel
theorem dX3_announceChange_46 : decode cX3_announceChange 46 = .ok (.aload_n 2, 1) := by decide +kernel
theorem dX3_announceChange_47 : decode cX3_announceChange 47 = .ok (.invokevirtual 65, 3) := by decide +kernel
theorem dX3_announceChange_50 : decode cX3_announceChange 50 = .ok (.aload_n 0, 1) := by decide +kernel
theorem dX3_announceChange_51 : decode cX3_announceChange 51 = .ok (.getfield 12, 3) := by decide +kernel
theorem dX3_announceChange_54 : decode cX3_announceChange 54 = .ok (.iload 4, 2) := by decide +kernel
theorem dX3_announceChange_56 : decode cX3_announceChange 56 = .ok (.aload_n 2, 1) := by decide +kernel
theorem dX3_announceChange_57 : decode cX3_announceChange 57 = .ok (.invokevirtual 91, 3) := by decide +kernel
theorem dX3_announceChange_60 : decode cX3_announceChange 60 = .ok (.aload_n 2, 1) := by decide +kernel
theorem dX3_announceChange_61 : decode cX3_announceChange 61 = .ok (.getfield 72, 3) := by decide +kernel
theorem dX3_announceChange_64 : decode cX3_announceChange 64 = .ok (.ifCond .ne 4, 3) := by decide +kernel
theorem dX3_announceChange_67 : decode cX3_announceChange 67 = .ok (.return_, 1) := by decide +kernel
theorem dX3_announceChange_68 : decode cX3_announceChange 68 = .ok (.aload_n 0, 1) := by decide +kernel
theorem dX3_announceChange_69 : decode cX3_announceChange 69 = .ok (.getfield 21, 3) := by decide +kernel
theorem dX3_announceChange_72 : decode cX3_announceChange 72 = .ok (.iload 4, 2) := by decide +kernel
theorem dX3_announceChange_74 : decode cX3_announceChange 74 = .ok (.invokevirtual 94, 3) := by decide +kernel
theorem dX3_announceChange_77 : decode cX3_announceChange 77 = .ok (.aload_n 0, 1) := by decide +kernel
theorem dX3_announceChange_78 : decode cX3_announceChange 78 = .ok (.getfield 12, 3) := by decide +kernel
theorem dX3_announceChange_81 : decode cX3_announceChange 81 = .ok (.iload_n 3, 1) := by decide +kernel
theorem dX3_announceChange_82 : decode cX3_announceChange 82 = .ok (.iconst 3, 1) := by decide +kernel
theorem dX3_announceChange_83 : decode cX3_announceChange 83 = .ok (.invokevirtual 87, 3) := by decide +kernel
theorem dX3_announceChange_86 : decode cX3_announceChange 86 = .ok (.iconst 3, 1) := by decide +kernel
theorem dX3_announceChange_87 : decode cX3_announceChange 87 = .ok (.if_icmp .ne 26, 3) := by decide +kernel
theorem dX3_announceChange_90 : decode cX3_announceChange 90 = .ok (.aload_n 0, 1) := by decide +kernel
theorem dX3_announceChange_91 : decode cX3_announceChange 91 = .ok (.getfield 21, 3) := by decide +kernel
theorem dX3_announceChange_94 : decode cX3_announceChange 94 = .ok (.iload_n 3, 1) := by decide +kernel
theorem dX3_announceChange_95 : decode cX3_announceChange 95 = .ok (.invokevirtual 97, 3) := by decide +kernel
theorem dX3_announceChange_98 : decode cX3_announceChange 98 = .ok (.aload_n 0, 1) := by decide +kernel
theorem dX3_announceChange_99 : decode cX3_announceChange 99 = .ok (.getfield 21, 3) := by decide +kernel
theorem dX3_announceChange_102 : decode cX3_announceChange 102 = .ok (.iconst 1, 1) := by decide +kernel
theorem dX3_announceChange_103 : decode cX3_announceChange 103 = .ok (.iload 4, 2) := by decide +kernel
theorem dX3_announceChange_105 : decode cX3_announceChange 105 = .ok (.iload_n 3, 1) := by decide +kernel
theorem dX3_announceChange_106 : decode cX3_announceChange 106 = .ok (.aload_n 2, 1) := by decide +kernel
theorem dX3_announceChange_107 : decode cX3_announceChange 107 = .ok (.invokevirtual 75, 3) := by decide +kernel
theorem dX3_announceChange_110 : decode cX3_announceChange 110 = .ok (.goto 15, 3) := by decide +kernel
theorem dX3_announceChange_113 : decode cX3_announceChange 113 = .ok (.aload_n 0, 1) := by decide +kernel
theorem dX3_announceChange_114 : decode cX3_announceChange 114 = .ok (.getfield 21, 3) := by decide +kernel
theorem dX3_announceChange_117 : decode cX3_announceChange 117 = .ok (.iconst 2, 1) := by decide +kernel
theorem dX3_announceChange_118 : decode cX3_announceChange 118 = .ok (.iload 4, 2) := by decide +kernel
theorem dX3_announceChange_120 : decode cX3_announceChange 120 = .ok (.iload_n 3, 1) := by decide +kernel
theorem dX3_announceChange_121 : decode cX3_announceChange 121 = .ok (.aload_n 2, 1) := by decide +kernel
theorem dX3_announceChange_122 : decode cX3_announceChange 122 = .ok (.invokevirtual 75, 3) := by decide +kernel
theorem dX3_announceChange_125 : decode cX3_announceChange 125 = .ok (.return_, 1) := by decide +kernel
abbrev rmX3_announceChange : Room := { frames := 65, cells := 0, slots := 0, locals := 1644 }
noncomputable def fX3_announceChange_44 (n : Nat) (Sh : Sp) (a0 : Nat) (a1 : Int32) (a2 : Nat) (M : Mm) (v3 : Int32) (t0 : Int32) : Option Mm :=
  chk (Sh a2 = some (.inl 5)) <|
  (fX5_empty n Sh M a2).bind fun r1 =>
  tF r1 a0 0 fun b2 =>
  chk (Sh b2 = some (.inl 4)) <|
  (fX4_joinPart n Sh r1 b2 t0 a2).bind fun r3 =>
  gI Sh r3 a2 5 1 fun x4 =>
  if x4 = 0 then
    some r3
  else
    tF r3 a0 1 fun b5 =>
    chk (Sh b5 = some (.inl 1)) <|
    (fX1_dropChangeOf n Sh r3 b5 t0).bind fun r6 =>
    tF r6 a0 0 fun b7 =>
    chk (Sh b7 = some (.inl 4)) <|
    (fX4_setting n Sh r6 b7 v3 3).bind fun r8 =>
    if r8 = 3 then
      tF r6 a0 1 fun b9 =>
      chk (Sh b9 = some (.inl 1)) <|
      (fX1_dropPolite n Sh r6 b9 v3).bind fun r10 =>
      tF r10 a0 1 fun b11 =>
      chk (Sh b11 = some (.inl 1)) <|
      (fX1_append n Sh r10 b11 1 t0 v3 a2).bind fun r12 =>
      some r12
    else
      tF r6 a0 1 fun b13 =>
      chk (Sh b13 = some (.inl 1)) <|
      (fX1_append n Sh r6 b13 2 t0 v3 a2).bind fun r14 =>
      some r14
noncomputable def fX3_announceChange (n : Nat) (Sh : Sp) (M : Mm) (a0 : Nat) (a1 : Int32) (a2 : Nat) : Option Mm :=
  tF M a0 0 fun b15 =>
  chk (Sh b15 = some (.inl 4)) <|
  (fX4_regionOf n Sh M b15 a1).bind fun r16 =>
  if r16 = (-1) then
    some M
  else
    tF M a0 0 fun b17 =>
    chk (Sh b17 = some (.inl 4)) <|
    (fX4_isShown n Sh M b17 a1).bind fun r18 =>
    if r18 = 0 then
      some M
    else
      tF M a0 0 fun b19 =>
      chk (Sh b19 = some (.inl 4)) <|
      (fX4_setting n Sh M b19 r16 4).bind fun r20 =>
      if r20 = 1 then
        fX3_announceChange_44 n Sh a0 a1 a2 M r16 r16
      else
        fX3_announceChange_44 n Sh a0 a1 a2 M r16 a1
set_option maxRecDepth 100000 in
set_option maxHeartbeats 4000000 in
theorem kX3_announceChange {l : Launch} {G : Gt} {n : Nat} {Sh : Sp} {M : Mm} {a0 : Nat} {a1 : Int32} {a2 : Nat} (hT : Sh a0 = some (.inl 3)) {r : Mm} (h : fX3_announceChange n Sh M a0 a1 a2 = some r) : Ct l yX3_announceChange cX3_announceChange 5 none rmX3_announceChange G Sh M [.ref a0, .int a1, .ref a2] none r := by
  refine Ct.of (by decide) (Nat.le_of_ble_eq_true rfl) ?_
  intro p e s m args below meth c ls C hK hX hP hS hb hlk hr hl
  replace hl : lv_has ls 5 [(0, .ref a0), (1, .int a1), (2, .ref a2)] := hl
  have J44 : ∀ (M : Mm) (v3 : Int32) (t0 : Int32) (H : Heap) (locs : List Loc) (ls : Array Slot), HM G Sh M H → SS G s s.heap.size H locs → lv_has ls 5 [(0, .ref a0), (1, .int a1), (2, .ref a2), (3, .int v3)] → fX3_announceChange_44 n Sh a0 a1 a2 M v3 t0 = some r → W p l e rmX3_announceChange s m args below meth c H locs 0 0 (MQ below (QG G Sh r none) args s rmX3_announceChange.cells rmX3_announceChange.slots (AA G)) (F0 m 44 ls [.int t0]) := by
    intro M v3 t0 H locs ls hP hS hl h
    unfold fX3_announceChange_44 at h
    refine lv_istore (lv' := [(4, .int t0), (0, .ref a0), (1, .int a1), (2, .ref a2), (3, .int v3)]) C.1 C.2.1 dX3_announceChange_44 hl (by decide) rfl (fun ls hl => ?_)
    refine lv_aload_n C.1 C.2.1 dX3_announceChange_46 rfl (lv_at hl 3 rfl) ?_
    obtain ⟨hs, h⟩ := chk_some h
    obtain ⟨r1, hc, h⟩ := bS h
    refine r_V0 C hK hX hb hP hS hl.1 (kX5_empty (hs) hc) hs cl_5 wd_453 mo_X5_empty wd_141 wd_142 ⟨Nat.le_of_ble_eq_true rfl, Nat.le_of_ble_eq_true rfl⟩ ⟨Nat.le_of_ble_eq_true rfl, Nat.le_of_ble_eq_true rfl⟩ rfl (rest := []) rfl (Nat.le_of_ble_eq_true rfl) dX3_announceChange_47 (fun H locs hP hS => ?_)
    refine lv_aload_n C.1 C.2.1 dX3_announceChange_50 rfl (lv_at hl 1 rfl) ?_
    refine r_tF C hK hP hT cl_3 (k := 0) (by decide) wd_208 rfl dX3_announceChange_51 h (fun b2 h => ?_)
    refine lv_iload C.1 C.2.1 dX3_announceChange_54 (lv_at hl 0 rfl) ?_
    refine lv_aload_n C.1 C.2.1 dX3_announceChange_56 rfl (lv_at hl 3 rfl) ?_
    obtain ⟨hs, h⟩ := chk_some h
    obtain ⟨r3, hc, h⟩ := bS h
    refine r_V0 C hK hX hb hP hS hl.1 (kX4_joinPart (hs) hc) hs cl_4 wd_881 mo_X4_joinPart wd_882 wd_883 ⟨Nat.le_of_ble_eq_true rfl, Nat.le_of_ble_eq_true rfl⟩ ⟨Nat.le_of_ble_eq_true rfl, Nat.le_of_ble_eq_true rfl⟩ rfl (rest := []) rfl (Nat.le_of_ble_eq_true rfl) dX3_announceChange_57 (fun H locs hP hS => ?_)
    refine lv_aload_n C.1 C.2.1 dX3_announceChange_60 rfl (lv_at hl 3 rfl) ?_
    refine r_gIN C hK hP cl_5 (k := 1) (by decide) (hX.nw wd_125) rfl dX3_announceChange_61 h (fun x4 h => ?_)
    refine b_ne (tgt := 68) C dX3_announceChange_64 (by decide) h (fun h => ?_) (fun h => ?_)
    · have e := Option.some.inj h
      exact q_v C hlk hP hS hr rfl e.symm dX3_announceChange_67
    · refine lv_aload_n C.1 C.2.1 dX3_announceChange_68 rfl (lv_at hl 1 rfl) ?_
      refine r_tF C hK hP hT cl_3 (k := 1) (by decide) wd_211 rfl dX3_announceChange_69 h (fun b5 h => ?_)
      refine lv_iload C.1 C.2.1 dX3_announceChange_72 (lv_at hl 0 rfl) ?_
      obtain ⟨hs, h⟩ := chk_some h
      obtain ⟨r6, hc, h⟩ := bS h
      refine r_V0 C hK hX hb hP hS hl.1 (kX1_dropChangeOf (hs) hc) hs cl_1 wd_885 mo_X1_dropChangeOf wd_886 wd_887 ⟨Nat.le_of_ble_eq_true rfl, Nat.le_of_ble_eq_true rfl⟩ ⟨Nat.le_of_ble_eq_true rfl, Nat.le_of_ble_eq_true rfl⟩ rfl (rest := []) rfl (Nat.le_of_ble_eq_true rfl) dX3_announceChange_74 (fun H locs hP hS => ?_)
      refine lv_aload_n C.1 C.2.1 dX3_announceChange_77 rfl (lv_at hl 1 rfl) ?_
      refine r_tF C hK hP hT cl_3 (k := 0) (by decide) wd_208 rfl dX3_announceChange_78 h (fun b7 h => ?_)
      refine lv_iload_n C.1 C.2.1 dX3_announceChange_81 rfl (lv_at hl 4 rfl) ?_
      refine lv_iconst (v := 3) C.1 C.2.1 dX3_announceChange_82 (by decide) ?_
      obtain ⟨hs, h⟩ := chk_some h
      obtain ⟨r8, hc, h⟩ := bS h
      refine r_V1 C hK hX hb hP hS hl.1 (kX4_setting (hs) hc) hs cl_4 wd_880 mo_X4_setting wd_355 wd_356 ⟨Nat.le_of_ble_eq_true rfl, Nat.le_of_ble_eq_true rfl⟩ ⟨Nat.le_of_ble_eq_true rfl, Nat.le_of_ble_eq_true rfl⟩ rfl (rest := []) rfl (Nat.le_of_ble_eq_true rfl) dX3_announceChange_83 (fun H locs hP hS => ?_)
      refine lv_iconst (v := 3) C.1 C.2.1 dX3_announceChange_86 (by decide) ?_
      refine b_ine (tgt := 113) C dX3_announceChange_87 (by decide) h (fun h => ?_) (fun h => ?_)
      · refine lv_aload_n C.1 C.2.1 dX3_announceChange_90 rfl (lv_at hl 1 rfl) ?_
        refine r_tF C hK hP hT cl_3 (k := 1) (by decide) wd_211 rfl dX3_announceChange_91 h (fun b9 h => ?_)
        refine lv_iload_n C.1 C.2.1 dX3_announceChange_94 rfl (lv_at hl 4 rfl) ?_
        obtain ⟨hs, h⟩ := chk_some h
        obtain ⟨r10, hc, h⟩ := bS h
        refine r_V0 C hK hX hb hP hS hl.1 (kX1_dropPolite (hs) hc) hs cl_1 wd_889 mo_X1_dropPolite wd_890 wd_891 ⟨Nat.le_of_ble_eq_true rfl, Nat.le_of_ble_eq_true rfl⟩ ⟨Nat.le_of_ble_eq_true rfl, Nat.le_of_ble_eq_true rfl⟩ rfl (rest := []) rfl (Nat.le_of_ble_eq_true rfl) dX3_announceChange_95 (fun H locs hP hS => ?_)
        refine lv_aload_n C.1 C.2.1 dX3_announceChange_98 rfl (lv_at hl 1 rfl) ?_
        refine r_tF C hK hP hT cl_3 (k := 1) (by decide) wd_211 rfl dX3_announceChange_99 h (fun b11 h => ?_)
        refine lv_iconst (v := 1) C.1 C.2.1 dX3_announceChange_102 (by decide) ?_
        refine lv_iload C.1 C.2.1 dX3_announceChange_103 (lv_at hl 0 rfl) ?_
        refine lv_iload_n C.1 C.2.1 dX3_announceChange_105 rfl (lv_at hl 4 rfl) ?_
        refine lv_aload_n C.1 C.2.1 dX3_announceChange_106 rfl (lv_at hl 3 rfl) ?_
        obtain ⟨hs, h⟩ := chk_some h
        obtain ⟨r12, hc, h⟩ := bS h
        refine r_V0 C hK hX hb hP hS hl.1 (kX1_append (hs) hc) hs cl_1 wd_561 mo_X1_append wd_562 wd_563 ⟨Nat.le_of_ble_eq_true rfl, Nat.le_of_ble_eq_true rfl⟩ ⟨Nat.le_of_ble_eq_true rfl, Nat.le_of_ble_eq_true rfl⟩ rfl (rest := []) rfl (Nat.le_of_ble_eq_true rfl) dX3_announceChange_107 (fun H locs hP hS => ?_)
        refine lv_goto (tgt := 125) C.1 C.2.1 dX3_announceChange_110 (by decide) ?_
        have e := Option.some.inj h
        exact q_v C hlk hP hS hr rfl e.symm dX3_announceChange_125
      · refine lv_aload_n C.1 C.2.1 dX3_announceChange_113 rfl (lv_at hl 1 rfl) ?_
        refine r_tF C hK hP hT cl_3 (k := 1) (by decide) wd_211 rfl dX3_announceChange_114 h (fun b13 h => ?_)
        refine lv_iconst (v := 2) C.1 C.2.1 dX3_announceChange_117 (by decide) ?_
        refine lv_iload C.1 C.2.1 dX3_announceChange_118 (lv_at hl 0 rfl) ?_
        refine lv_iload_n C.1 C.2.1 dX3_announceChange_120 rfl (lv_at hl 4 rfl) ?_
        refine lv_aload_n C.1 C.2.1 dX3_announceChange_121 rfl (lv_at hl 3 rfl) ?_
        obtain ⟨hs, h⟩ := chk_some h
        obtain ⟨r14, hc, h⟩ := bS h
        refine r_V0 C hK hX hb hP hS hl.1 (kX1_append (hs) hc) hs cl_1 wd_561 mo_X1_append wd_562 wd_563 ⟨Nat.le_of_ble_eq_true rfl, Nat.le_of_ble_eq_true rfl⟩ ⟨Nat.le_of_ble_eq_true rfl, Nat.le_of_ble_eq_true rfl⟩ rfl (rest := []) rfl (Nat.le_of_ble_eq_true rfl) dX3_announceChange_122 (fun H locs hP hS => ?_)
        have e := Option.some.inj h
        exact q_v C hlk hP hS hr rfl e.symm dX3_announceChange_125
  unfold fX3_announceChange at h
  refine lv_aload_n C.1 C.2.1 dX3_announceChange_0 rfl (lv_at hl 0 rfl) ?_
  refine r_tF C hK hP hT cl_3 (k := 0) (by decide) wd_208 rfl dX3_announceChange_1 h (fun b15 h => ?_)
  refine lv_iload_n C.1 C.2.1 dX3_announceChange_4 rfl (lv_at hl 1 rfl) ?_
  obtain ⟨hs, h⟩ := chk_some h
  obtain ⟨r16, hc, h⟩ := bS h
  refine r_V1 C hK hX hb hP hS hl.1 (kX4_regionOf (hs) hc) hs cl_4 wd_875 mo_X4_regionOf wd_876 wd_877 ⟨Nat.le_of_ble_eq_true rfl, Nat.le_of_ble_eq_true rfl⟩ ⟨Nat.le_of_ble_eq_true rfl, Nat.le_of_ble_eq_true rfl⟩ rfl (rest := []) rfl (Nat.le_of_ble_eq_true rfl) dX3_announceChange_5 (fun H locs hP hS => ?_)
  refine lv_istore_n (lv' := [(3, .int r16), (0, .ref a0), (1, .int a1), (2, .ref a2)]) C.1 C.2.1 dX3_announceChange_8 rfl hl (by decide) rfl (fun ls hl => ?_)
  refine lv_iload_n C.1 C.2.1 dX3_announceChange_9 rfl (lv_at hl 0 rfl) ?_
  refine lv_iconst (v := (-1)) C.1 C.2.1 dX3_announceChange_10 (by decide) ?_
  refine b_ieq (tgt := 25) C dX3_announceChange_11 (by decide) h (fun h => ?_) (fun h => ?_)
  · have e := Option.some.inj h
    exact q_v C hlk hP hS hr rfl e.symm dX3_announceChange_25
  · refine lv_aload_n C.1 C.2.1 dX3_announceChange_14 rfl (lv_at hl 1 rfl) ?_
    refine r_tF C hK hP hT cl_3 (k := 0) (by decide) wd_208 rfl dX3_announceChange_15 h (fun b17 h => ?_)
    refine lv_iload_n C.1 C.2.1 dX3_announceChange_18 rfl (lv_at hl 2 rfl) ?_
    obtain ⟨hs, h⟩ := chk_some h
    obtain ⟨r18, hc, h⟩ := bS h
    refine r_V1 C hK hX hb hP hS hl.1 (kX4_isShown (hs) hc) hs cl_4 wd_879 mo_X4_isShown wd_347 wd_348 ⟨Nat.le_of_ble_eq_true rfl, Nat.le_of_ble_eq_true rfl⟩ ⟨Nat.le_of_ble_eq_true rfl, Nat.le_of_ble_eq_true rfl⟩ rfl (rest := []) rfl (Nat.le_of_ble_eq_true rfl) dX3_announceChange_19 (fun H locs hP hS => ?_)
    refine b_ne (tgt := 26) C dX3_announceChange_22 (by decide) h (fun h => ?_) (fun h => ?_)
    · have e := Option.some.inj h
      exact q_v C hlk hP hS hr rfl e.symm dX3_announceChange_25
    · refine lv_aload_n C.1 C.2.1 dX3_announceChange_26 rfl (lv_at hl 1 rfl) ?_
      refine r_tF C hK hP hT cl_3 (k := 0) (by decide) wd_208 rfl dX3_announceChange_27 h (fun b19 h => ?_)
      refine lv_iload_n C.1 C.2.1 dX3_announceChange_30 rfl (lv_at hl 0 rfl) ?_
      refine lv_iconst (v := 4) C.1 C.2.1 dX3_announceChange_31 (by decide) ?_
      obtain ⟨hs, h⟩ := chk_some h
      obtain ⟨r20, hc, h⟩ := bS h
      refine r_V1 C hK hX hb hP hS hl.1 (kX4_setting (hs) hc) hs cl_4 wd_880 mo_X4_setting wd_355 wd_356 ⟨Nat.le_of_ble_eq_true rfl, Nat.le_of_ble_eq_true rfl⟩ ⟨Nat.le_of_ble_eq_true rfl, Nat.le_of_ble_eq_true rfl⟩ rfl (rest := []) rfl (Nat.le_of_ble_eq_true rfl) dX3_announceChange_32 (fun H locs hP hS => ?_)
      refine lv_iconst (v := 1) C.1 C.2.1 dX3_announceChange_35 (by decide) ?_
      refine b_ine (tgt := 43) C dX3_announceChange_36 (by decide) h (fun h => ?_) (fun h => ?_)
      · refine lv_iload_n C.1 C.2.1 dX3_announceChange_39 rfl (lv_at hl 0 rfl) ?_
        refine lv_goto (tgt := 44) C.1 C.2.1 dX3_announceChange_40 (by decide) ?_
        exact J44 (M) (r16) (r16) _ _ _ hP hS (lv_sub hl [1, 2, 3, 0] rfl) h
      · refine lv_iload_n C.1 C.2.1 dX3_announceChange_43 rfl (lv_at hl 2 rfl) ?_
        exact J44 (M) (r16) (a1) _ _ _ hP hS (lv_sub hl [1, 2, 3, 0] rfl) h
theorem dX6_requireNode_0 : decode cX6_requireNode 0 = .ok (.aload_n 0, 1) := by decide +kernel
theorem dX6_requireNode_1 : decode cX6_requireNode 1 = .ok (.getfield 10, 3) := by decide +kernel
theorem dX6_requireNode_4 : decode cX6_requireNode 4 = .ok (.getfield 27, 3) := by decide +kernel
theorem dX6_requireNode_7 : decode cX6_requireNode 7 = .ok (.iload_n 1, 1) := by decide +kernel
theorem dX6_requireNode_8 : decode cX6_requireNode 8 = .ok (.invokevirtual 334, 3) := by decide +kernel
theorem dX6_requireNode_11 : decode cX6_requireNode 11 = .ok (.ifCond .ne 14, 3) := by decide +kernel
theorem dX6_requireNode_14 : decode cX6_requireNode 14 = .ok (.new 71, 3) := by decide +kernel
theorem dX6_requireNode_17 : decode cX6_requireNode 17 = .ok (.dup, 1) := by decide +kernel
theorem dX6_requireNode_18 : decode cX6_requireNode 18 = .ok (.ldc_w 337, 3) := by decide +kernel
theorem dX6_requireNode_21 : decode cX6_requireNode 21 = .ok (.invokespecial 75, 3) := by decide +kernel
theorem dX6_requireNode_24 : decode cX6_requireNode 24 = .ok (.athrow, 1) := by decide +kernel
theorem dX6_requireNode_25 : decode cX6_requireNode 25 = .ok (.return_, 1) := by decide +kernel
abbrev rmX6_requireNode : Room := { frames := 6, cells := 1, slots := 6, locals := 100 }
noncomputable def fX6_requireNode (n : Nat) (Sh : Sp) (M : Mm) (a0 : Nat) (a1 : Int32) : Option (String ⊕ Unit) :=
  tF M a0 0 fun b1 =>
  gF Sh M b1 3 0 fun b2 =>
  chk (Sh b2 = some (.inl 4)) <|
  (fX4_has n Sh M b2 a1).bind fun r3 =>
  if r3 = 0 then
    some (Sum.inl "java/lang/IndexOutOfBoundsException")
  else
    some (Sum.inr ())
set_option maxRecDepth 100000 in
set_option maxHeartbeats 4000000 in
theorem kX6_requireNode {l : Launch} {G : Gt} {n : Nat} {Sh : Sp} {M : Mm} {a0 : Nat} {a1 : Int32} (hT : Sh a0 = some (.inl 6)) (hfl : l.stackTraces = false) {r : (String ⊕ Unit)} (h : fX6_requireNode n Sh M a0 a1 = some r) : CtX l yX6_requireNode cX6_requireNode 2 none rmX6_requireNode G Sh M [.ref a0, .int a1] (rsU r) M := by
  refine CtX.of (by decide) (Nat.le_of_ble_eq_true rfl) ?_
  intro p e s m args below meth c ls C hK hX hP hS hb hlk hr hno hl
  replace hl : lv_has ls 2 [(0, .ref a0), (1, .int a1)] := hl
  unfold fX6_requireNode at h
  refine lv_aload_n C.1 C.2.1 dX6_requireNode_0 rfl (lv_at hl 0 rfl) ?_
  refine r_tF C hK hP hT cl_6 (k := 0) (by decide) wd_264 rfl dX6_requireNode_1 h (fun b1 h => ?_)
  refine r_gFN C hK hP cl_3 (k := 0) (by decide) (hX.nw wd_209) rfl dX6_requireNode_4 h (fun b2 h => ?_)
  refine lv_iload_n C.1 C.2.1 dX6_requireNode_7 rfl (lv_at hl 1 rfl) ?_
  obtain ⟨hs, h⟩ := chk_some h
  obtain ⟨r3, hc, h⟩ := bS h
  refine r_V1 C hK hX hb hP hS hl.1 (kX4_has (hs) hc) hs cl_4 wd_675 mo_X4_has wd_298 wd_299 ⟨Nat.le_of_ble_eq_true rfl, Nat.le_of_ble_eq_true rfl⟩ ⟨Nat.le_of_ble_eq_true rfl, Nat.le_of_ble_eq_true rfl⟩ rfl (rest := []) rfl (Nat.le_of_ble_eq_true rfl) dX6_requireNode_8 (fun H locs hP hS => ?_)
  refine b_ne (tgt := 25) C dX6_requireNode_11 (by decide) h (fun h => ?_) (fun h => ?_)
  · have e := Option.some.inj h
    subst e
    exact x_newW (rest := []) (text := "no such node") C hfl hno hX hP hS hlk hl.1 (by decide +kernel) wd_676 wd_86 (by decide +kernel) xw_75 xg_75 dX6_requireNode_14 dX6_requireNode_17 dX6_requireNode_18 dX6_requireNode_21 dX6_requireNode_24 (by decide) (Nat.le_of_ble_eq_true rfl) (Nat.le_of_ble_eq_true rfl) (Nat.le_of_ble_eq_true rfl) (Nat.le_of_ble_eq_true rfl) (Nat.le_of_ble_eq_true rfl) rfl
  · have e := Option.some.inj h
    refine W.widen (k := 1) (n := 6) (Nat.le_of_ble_eq_true rfl) (Nat.le_of_ble_eq_true rfl) ?_
    exact x_vr C hlk hP hS hr e dX6_requireNode_25
theorem dX6_keepRecord_0 : decode cX6_keepRecord 0 = .ok (.aload_n 0, 1) := by decide +kernel
theorem dX6_keepRecord_1 : decode cX6_keepRecord 1 = .ok (.getfield 42, 3) := by decide +kernel
theorem dX6_keepRecord_4 : decode cX6_keepRecord 4 = .ok (.iconst 5, 1) := by decide +kernel
theorem dX6_keepRecord_5 : decode cX6_keepRecord 5 = .ok (.if_icmp .lt 49, 3) := by decide +kernel
theorem dX6_keepRecord_8 : decode cX6_keepRecord 8 = .ok (.aload_n 0, 1) := by decide +kernel
theorem dX6_keepRecord_9 : decode cX6_keepRecord 9 = .ok (.getfield 38, 3) := by decide +kernel
theorem dX6_keepRecord_12 : decode cX6_keepRecord 12 = .ok (.iconst 0, 1) := by decide +kernel
theorem dX6_keepRecord_13 : decode cX6_keepRecord 13 = .ok (.aaload, 1) := by decide +kernel
theorem dX6_keepRecord_14 : decode cX6_keepRecord 14 = .ok (.astore_n 1, 1) := by decide +kernel
theorem dX6_keepRecord_15 : decode cX6_keepRecord 15 = .ok (.iconst 1, 1) := by decide +kernel
theorem dX6_keepRecord_16 : decode cX6_keepRecord 16 = .ok (.istore_n 2, 1) := by decide +kernel
theorem dX6_keepRecord_17 : decode cX6_keepRecord 17 = .ok (.iload_n 2, 1) := by decide +kernel
theorem dX6_keepRecord_18 : decode cX6_keepRecord 18 = .ok (.iconst 5, 1) := by decide +kernel
theorem dX6_keepRecord_19 : decode cX6_keepRecord 19 = .ok (.if_icmp .ge 23, 3) := by decide +kernel
theorem dX6_keepRecord_22 : decode cX6_keepRecord 22 = .ok (.aload_n 0, 1) := by decide +kernel
theorem dX6_keepRecord_23 : decode cX6_keepRecord 23 = .ok (.getfield 38, 3) := by decide +kernel
theorem dX6_keepRecord_26 : decode cX6_keepRecord 26 = .ok (.iload_n 2, 1) := by decide +kernel
theorem dX6_keepRecord_27 : decode cX6_keepRecord 27 = .ok (.iconst 1, 1) := by decide +kernel
theorem dX6_keepRecord_28 : decode cX6_keepRecord 28 = .ok (.isub, 1) := by decide +kernel
theorem dX6_keepRecord_29 : decode cX6_keepRecord 29 = .ok (.aload_n 0, 1) := by decide +kernel
theorem dX6_keepRecord_30 : decode cX6_keepRecord 30 = .ok (.getfield 38, 3) := by decide +kernel
theorem dX6_keepRecord_33 : decode cX6_keepRecord 33 = .ok (.iload_n 2, 1) := by decide +kernel
theorem dX6_keepRecord_34 : decode cX6_keepRecord 34 = .ok (.aaload, 1) := by decide +kernel
theorem dX6_keepRecord_35 : decode cX6_keepRecord 35 = .ok (.aastore, 1) := by decide +kernel
theorem dX6_keepRecord_36 : decode cX6_keepRecord 36 = .ok (.iinc 2 1, 3) := by decide +kernel
theorem dX6_keepRecord_39 : decode cX6_keepRecord 39 = .ok (.goto (-22), 3) := by decide +kernel
theorem dX6_keepRecord_42 : decode cX6_keepRecord 42 = .ok (.aload_n 0, 1) := by decide +kernel
theorem dX6_keepRecord_43 : decode cX6_keepRecord 43 = .ok (.getfield 38, 3) := by decide +kernel
theorem dX6_keepRecord_46 : decode cX6_keepRecord 46 = .ok (.iconst 4, 1) := by decide +kernel
theorem dX6_keepRecord_47 : decode cX6_keepRecord 47 = .ok (.aload_n 1, 1) := by decide +kernel
theorem dX6_keepRecord_48 : decode cX6_keepRecord 48 = .ok (.aastore, 1) := by decide +kernel
theorem dX6_keepRecord_49 : decode cX6_keepRecord 49 = .ok (.aload_n 0, 1) := by decide +kernel
theorem dX6_keepRecord_50 : decode cX6_keepRecord 50 = .ok (.iconst 4, 1) := by decide +kernel
theorem dX6_keepRecord_51 : decode cX6_keepRecord 51 = .ok (.putfield 42, 3) := by decide +kernel
theorem dX6_keepRecord_54 : decode cX6_keepRecord 54 = .ok (.aload_n 0, 1) := by decide +kernel
theorem dX6_keepRecord_55 : decode cX6_keepRecord 55 = .ok (.getfield 42, 3) := by decide +kernel
theorem dX6_keepRecord_58 : decode cX6_keepRecord 58 = .ok (.ifCond .lt 41, 3) := by decide +kernel
theorem dX6_keepRecord_61 : decode cX6_keepRecord 61 = .ok (.aload_n 0, 1) := by decide +kernel
theorem dX6_keepRecord_62 : decode cX6_keepRecord 62 = .ok (.getfield 42, 3) := by decide +kernel
theorem dX6_keepRecord_65 : decode cX6_keepRecord 65 = .ok (.aload_n 0, 1) := by decide +kernel
theorem dX6_keepRecord_66 : decode cX6_keepRecord 66 = .ok (.getfield 38, 3) := by decide +kernel
theorem dX6_keepRecord_69 : decode cX6_keepRecord 69 = .ok (.arraylength, 1) := by decide +kernel
theorem dX6_keepRecord_70 : decode cX6_keepRecord 70 = .ok (.if_icmp .ge 29, 3) := by decide +kernel
theorem dX6_keepRecord_73 : decode cX6_keepRecord 73 = .ok (.aload_n 0, 1) := by decide +kernel
theorem dX6_keepRecord_74 : decode cX6_keepRecord 74 = .ok (.getfield 38, 3) := by decide +kernel
theorem dX6_keepRecord_77 : decode cX6_keepRecord 77 = .ok (.aload_n 0, 1) := by decide +kernel
theorem dX6_keepRecord_78 : decode cX6_keepRecord 78 = .ok (.getfield 42, 3) := by decide +kernel
theorem dX6_keepRecord_81 : decode cX6_keepRecord 81 = .ok (.aaload, 1) := by decide +kernel
theorem dX6_keepRecord_82 : decode cX6_keepRecord 82 = .ok (.aload_n 0, 1) := by decide +kernel
theorem dX6_keepRecord_83 : decode cX6_keepRecord 83 = .ok (.getfield 10, 3) := by decide +kernel
theorem dX6_keepRecord_86 : decode cX6_keepRecord 86 = .ok (.invokevirtual 306, 3) := by decide +kernel
theorem dX6_keepRecord_89 : decode cX6_keepRecord 89 = .ok (.aload_n 0, 1) := by decide +kernel
theorem dX6_keepRecord_90 : decode cX6_keepRecord 90 = .ok (.dup, 1) := by decide +kernel
theorem dX6_keepRecord_91 : decode cX6_keepRecord 91 = .ok (.getfield 42, 3) := by decide +kernel
theorem dX6_keepRecord_94 : decode cX6_keepRecord 94 = .ok (.iconst 1, 1) := by decide +kernel
theorem dX6_keepRecord_95 : decode cX6_keepRecord 95 = .ok (.iadd, 1) := by decide +kernel
theorem dX6_keepRecord_96 : decode cX6_keepRecord 96 = .ok (.putfield 42, 3) := by decide +kernel
theorem dX6_keepRecord_99 : decode cX6_keepRecord 99 = .ok (.return_, 1) := by decide +kernel
abbrev rmX6_keepRecord : Room := { frames := 4, cells := 0, slots := 0, locals := 104 }
noncomputable def fX6_keepRecord_54 (n : Nat) (Sh : Sp) (a0 : Nat) (M : Mm) : Option Mm :=
  tI M a0 4 fun x1 =>
  if x1 < 0 then
    some M
  else
    tI M a0 4 fun x2 =>
    tF M a0 3 fun b3 =>
    aN Sh b3 fun x4 =>
    if x2 < x4 then
      tF M a0 3 fun b5 =>
      tI M a0 4 fun x6 =>
      aR Sh M b5 5 x6 fun b7 =>
      tF M a0 0 fun b8 =>
      chk (Sh b7 = some (.inl 3)) <|
      (fX3_copyFrom n Sh M b7 b8).bind fun r9 =>
      tI r9 a0 4 fun x10 =>
      qI r9 a0 4 (x10 + 1) fun M11 =>
      some M11
    else
      some M
noncomputable def fX6_keepRecord_42 (n : Nat) (Sh : Sp) (a0 : Nat) (M : Mm) (v1 : Nat) : Option Mm :=
  tF M a0 3 fun b12 =>
  sR Sh M b12 5 3 4 v1 fun M13 =>
  qI M13 a0 4 4 fun M14 =>
  fX6_keepRecord_54 n Sh a0 M14
noncomputable def fX6_keepRecord_17b (n : Nat) (Sh : Sp) (a0 : Nat) (M : Mm) (v1 : Nat) (v2 : Int32) : Option ((Int32 × Mm) ⊕ Mm) :=
  if v2 < 5 then
    tF M a0 3 fun b15 =>
    tF M a0 3 fun b16 =>
    aR Sh M b16 5 v2 fun b17 =>
    sR Sh M b15 5 3 (v2 - 1) b17 fun M18 =>
    some (Sum.inl ((v2 + 1), M18))
  else
    (fX6_keepRecord_42 n Sh a0 M v1).map Sum.inr
noncomputable def fX6_keepRecord_17 (n : Nat) (Sh : Sp) (a0 : Nat) (M : Mm) (v1 : Nat) (v2 : Int32) : Option Mm :=
  iter n (fun s => fX6_keepRecord_17b n Sh a0 s.2 v1 s.1) (v2, M)
noncomputable def fX6_keepRecord (n : Nat) (Sh : Sp) (M : Mm) (a0 : Nat) : Option Mm :=
  tI M a0 4 fun x19 =>
  if x19 < 5 then
    fX6_keepRecord_54 n Sh a0 M
  else
    tF M a0 3 fun b20 =>
    aR Sh M b20 5 0 fun b21 =>
    fX6_keepRecord_17 n Sh a0 M b21 1
set_option maxRecDepth 100000 in
set_option maxHeartbeats 4000000 in
theorem kX6_keepRecord {l : Launch} {G : Gt} {n : Nat} {Sh : Sp} {M : Mm} {a0 : Nat} (hT : Sh a0 = some (.inl 6)) {r : Mm} (h : fX6_keepRecord n Sh M a0 = some r) : Ct l yX6_keepRecord cX6_keepRecord 3 none rmX6_keepRecord G Sh M [.ref a0] none r := by
  refine Ct.of (by decide) (Nat.le_of_ble_eq_true rfl) ?_
  intro p e s m args below meth c ls C hK hX hP hS hb hlk hr hl
  replace hl : lv_has ls 3 [(0, .ref a0)] := hl
  have J54 : ∀ (M : Mm) (H : Heap) (locs : List Loc) (ls : Array Slot), HM G Sh M H → SS G s s.heap.size H locs → lv_has ls 3 [(0, .ref a0)] → fX6_keepRecord_54 n Sh a0 M = some r → W p l e rmX6_keepRecord s m args below meth c H locs 0 0 (MQ below (QG G Sh r none) args s rmX6_keepRecord.cells rmX6_keepRecord.slots (AA G)) (F0 m 54 ls []) := by
    intro M H locs ls hP hS hl h
    unfold fX6_keepRecord_54 at h
    refine lv_aload_n C.1 C.2.1 dX6_keepRecord_54 rfl (lv_at hl 0 rfl) ?_
    refine r_tI C hK hP hT cl_6 (k := 4) (by decide) wd_268 rfl dX6_keepRecord_55 h (fun x1 h => ?_)
    refine b_lt (tgt := 99) C dX6_keepRecord_58 (by decide) h (fun h => ?_) (fun h => ?_)
    · have e := Option.some.inj h
      exact q_v C hlk hP hS hr rfl e.symm dX6_keepRecord_99
    · refine lv_aload_n C.1 C.2.1 dX6_keepRecord_61 rfl (lv_at hl 0 rfl) ?_
      refine r_tI C hK hP hT cl_6 (k := 4) (by decide) wd_268 rfl dX6_keepRecord_62 h (fun x2 h => ?_)
      refine lv_aload_n C.1 C.2.1 dX6_keepRecord_65 rfl (lv_at hl 0 rfl) ?_
      refine r_tF C hK hP hT cl_6 (k := 3) (by decide) wd_267 rfl dX6_keepRecord_66 h (fun b3 h => ?_)
      refine r_aN C hK hP dX6_keepRecord_69 h (fun x4 h => ?_)
      refine b_ige (tgt := 99) C dX6_keepRecord_70 (by decide) h (fun h => ?_) (fun h => ?_)
      · refine lv_aload_n C.1 C.2.1 dX6_keepRecord_73 rfl (lv_at hl 0 rfl) ?_
        refine r_tF C hK hP hT cl_6 (k := 3) (by decide) wd_267 rfl dX6_keepRecord_74 h (fun b5 h => ?_)
        refine lv_aload_n C.1 C.2.1 dX6_keepRecord_77 rfl (lv_at hl 0 rfl) ?_
        refine r_tI C hK hP hT cl_6 (k := 4) (by decide) wd_268 rfl dX6_keepRecord_78 h (fun x6 h => ?_)
        refine r_aR5 C hK hP dX6_keepRecord_81 h (fun b7 h => ?_)
        refine lv_aload_n C.1 C.2.1 dX6_keepRecord_82 rfl (lv_at hl 0 rfl) ?_
        refine r_tF C hK hP hT cl_6 (k := 0) (by decide) wd_264 rfl dX6_keepRecord_83 h (fun b8 h => ?_)
        obtain ⟨hs, h⟩ := chk_some h
        obtain ⟨r9, hc, h⟩ := bS h
        refine r_V0 C hK hX hb hP hS hl.1 (kX3_copyFrom (hs) hc) hs cl_3 wd_398 mo_X3_copyFrom wd_399 wd_400 ⟨Nat.le_of_ble_eq_true rfl, Nat.le_of_ble_eq_true rfl⟩ ⟨Nat.le_of_ble_eq_true rfl, Nat.le_of_ble_eq_true rfl⟩ rfl (rest := []) rfl (Nat.le_of_ble_eq_true rfl) dX6_keepRecord_86 (fun H locs hP hS => ?_)
        refine lv_aload_n C.1 C.2.1 dX6_keepRecord_89 rfl (lv_at hl 0 rfl) ?_
        refine lv_dup C.1 C.2.1 dX6_keepRecord_90 rfl ?_
        refine r_tI C hK hP hT cl_6 (k := 4) (by decide) wd_268 rfl dX6_keepRecord_91 h (fun x10 h => ?_)
        refine lv_iconst (v := 1) C.1 C.2.1 dX6_keepRecord_94 (by decide) ?_
        refine lv_iadd C.1 C.2.1 dX6_keepRecord_95 ?_
        refine r_qI C hK hP hS hT cl_6 (k := 4) (by decide) wd_268 rfl rfl (tyX6_ok 4 (by decide)) dX6_keepRecord_96 h (fun M11 H locs h hP hS => ?_)
        have e := Option.some.inj h
        exact q_v C hlk hP hS hr rfl e.symm dX6_keepRecord_99
      · have e := Option.some.inj h
        exact q_v C hlk hP hS hr rfl e.symm dX6_keepRecord_99
  have J42 : ∀ (M : Mm) (v1 : Nat) (H : Heap) (locs : List Loc) (ls : Array Slot), HM G Sh M H → SS G s s.heap.size H locs → lv_has ls 3 [(0, .ref a0), (1, .ref v1)] → fX6_keepRecord_42 n Sh a0 M v1 = some r → W p l e rmX6_keepRecord s m args below meth c H locs 0 0 (MQ below (QG G Sh r none) args s rmX6_keepRecord.cells rmX6_keepRecord.slots (AA G)) (F0 m 42 ls []) := by
    intro M v1 H locs ls hP hS hl h
    unfold fX6_keepRecord_42 at h
    refine lv_aload_n C.1 C.2.1 dX6_keepRecord_42 rfl (lv_at hl 0 rfl) ?_
    refine r_tF C hK hP hT cl_6 (k := 3) (by decide) wd_267 rfl dX6_keepRecord_43 h (fun b12 h => ?_)
    refine lv_iconst (v := 4) C.1 C.2.1 dX6_keepRecord_46 (by decide) ?_
    refine lv_aload_n C.1 C.2.1 dX6_keepRecord_47 rfl (lv_at hl 1 rfl) ?_
    refine r_sR C hK hP hS (ti := 5) (by decide) cl_3 rfl dX6_keepRecord_48 h (fun M13 H locs h hP hS => ?_)
    refine lv_aload_n C.1 C.2.1 dX6_keepRecord_49 rfl (lv_at hl 0 rfl) ?_
    refine lv_iconst (v := 4) C.1 C.2.1 dX6_keepRecord_50 (by decide) ?_
    refine r_qI C hK hP hS hT cl_6 (k := 4) (by decide) wd_268 rfl rfl (tyX6_ok 4 (by decide)) dX6_keepRecord_51 h (fun M14 H locs h hP hS => ?_)
    exact J54 (M14) _ _ _ hP hS (lv_sub hl [0] rfl) h
  have J17 : ∀ (v1 : Nat), ∀ (k : Nat) (v2 : Int32) (M : Mm) (H : Heap) (locs : List Loc) (ls : Array Slot), HM G Sh M H → SS G s s.heap.size H locs → lv_has ls 3 [(0, .ref a0), (1, .ref v1), (2, .int v2)] → iter k (fun s => fX6_keepRecord_17b n Sh a0 s.2 v1 s.1) (v2, M) = some r → W p l e rmX6_keepRecord s m args below meth c H locs 0 0 (MQ below (QG G Sh r none) args s rmX6_keepRecord.cells rmX6_keepRecord.slots (AA G)) (F0 m 17 ls []) := by
    intro v1 k
    induction k with
    | zero => intro v2 M H locs ls hP hS hl h; exact (iter_0 h).elim
    | succ k ih1 =>
      intro v2 M H locs ls hP hS hl h
      obtain ⟨z1, h, hz1⟩ := iter_some h
      replace h : fX6_keepRecord_17b n Sh a0 M v1 v2 = some z1 := h
      unfold fX6_keepRecord_17b at h
      refine lv_iload_n C.1 C.2.1 dX6_keepRecord_17 rfl (lv_at hl 2 rfl) ?_
      refine lv_iconst (v := 5) C.1 C.2.1 dX6_keepRecord_18 (by decide) ?_
      refine b_ige (tgt := 42) C dX6_keepRecord_19 (by decide) h (fun h => ?_) (fun h => ?_)
      · refine lv_aload_n C.1 C.2.1 dX6_keepRecord_22 rfl (lv_at hl 0 rfl) ?_
        refine r_tF C hK hP hT cl_6 (k := 3) (by decide) wd_267 rfl dX6_keepRecord_23 h (fun b15 h => ?_)
        refine lv_iload_n C.1 C.2.1 dX6_keepRecord_26 rfl (lv_at hl 2 rfl) ?_
        refine lv_iconst (v := 1) C.1 C.2.1 dX6_keepRecord_27 (by decide) ?_
        refine lv_isub C.1 C.2.1 dX6_keepRecord_28 ?_
        refine lv_aload_n C.1 C.2.1 dX6_keepRecord_29 rfl (lv_at hl 0 rfl) ?_
        refine r_tF C hK hP hT cl_6 (k := 3) (by decide) wd_267 rfl dX6_keepRecord_30 h (fun b16 h => ?_)
        refine lv_iload_n C.1 C.2.1 dX6_keepRecord_33 rfl (lv_at hl 2 rfl) ?_
        refine r_aR5 C hK hP dX6_keepRecord_34 h (fun b17 h => ?_)
        refine r_sR C hK hP hS (ti := 5) (by decide) cl_3 rfl dX6_keepRecord_35 h (fun M18 H locs h hP hS => ?_)
        refine lv_iinc (v := (v2 + 1)) (lv' := [(2, .int (v2 + 1)), (0, .ref a0), (1, .ref v1)]) C.1 C.2.1 dX6_keepRecord_36 hl (k := 2) rfl rfl (by decide) rfl (fun ls hl => ?_)
        refine lv_goto (tgt := 17) C.1 C.2.1 dX6_keepRecord_39 (by decide) ?_
        have e := Option.some.inj h
        rw [← e] at hz1
        exact ih1 ((v2 + 1)) M18 _ _ _ hP hS (lv_sub hl [1, 2, 0] rfl) (itK_inl hz1)
      · obtain ⟨w1, h, e⟩ := mS h
        rw [← e] at hz1
        replace e := itK_inr hz1
        rw [e] at h
        exact J42 (M) (v1) _ _ _ hP hS (lv_sub hl [0, 1] rfl) h
  unfold fX6_keepRecord at h
  refine lv_aload_n C.1 C.2.1 dX6_keepRecord_0 rfl (lv_at hl 0 rfl) ?_
  refine r_tI C hK hP hT cl_6 (k := 4) (by decide) wd_268 rfl dX6_keepRecord_1 h (fun x19 h => ?_)
  refine lv_iconst (v := 5) C.1 C.2.1 dX6_keepRecord_4 (by decide) ?_
  refine b_ilt (tgt := 54) C dX6_keepRecord_5 (by decide) h (fun h => ?_) (fun h => ?_)
  · exact J54 (M) _ _ _ hP hS (lv_sub hl [0] rfl) h
  · refine lv_aload_n C.1 C.2.1 dX6_keepRecord_8 rfl (lv_at hl 0 rfl) ?_
    refine r_tF C hK hP hT cl_6 (k := 3) (by decide) wd_267 rfl dX6_keepRecord_9 h (fun b20 h => ?_)
    refine lv_iconst (v := 0) C.1 C.2.1 dX6_keepRecord_12 (by decide) ?_
    refine r_aR5 C hK hP dX6_keepRecord_13 h (fun b21 h => ?_)
    refine lv_astore_n (lv' := [(1, .ref b21), (0, .ref a0)]) C.1 C.2.1 dX6_keepRecord_14 rfl hl (by decide) rfl (fun ls hl => ?_)
    refine lv_iconst (v := 1) C.1 C.2.1 dX6_keepRecord_15 (by decide) ?_
    refine lv_istore_n (lv' := [(2, .int 1), (1, .ref b21), (0, .ref a0)]) C.1 C.2.1 dX6_keepRecord_16 rfl hl (by decide) rfl (fun ls hl => ?_)
    exact J17 (b21) n (1) M _ _ _ hP hS (lv_sub hl [2, 1, 0] rfl) h
theorem dX6_create_0 : decode cX6_create 0 = .ok (.aload_n 0, 1) := by decide +kernel
theorem dX6_create_1 : decode cX6_create 1 = .ok (.iload_n 1, 1) := by decide +kernel
theorem dX6_create_2 : decode cX6_create 2 = .ok (.invokevirtual 62, 3) := by decide +kernel
theorem dX6_create_5 : decode cX6_create 5 = .ok (.iload_n 2, 1) := by decide +kernel
theorem dX6_create_6 : decode cX6_create 6 = .ok (.ifCond .lt 18, 3) := by decide +kernel
theorem dX6_create_9 : decode cX6_create 9 = .ok (.iload_n 2, 1) := by decide +kernel
theorem dX6_create_10 : decode cX6_create 10 = .ok (.aload_n 0, 1) := by decide +kernel
theorem dX6_create_11 : decode cX6_create 11 = .ok (.getfield 10, 3) := by decide +kernel
theorem dX6_create_14 : decode cX6_create 14 = .ok (.getfield 27, 3) := by decide +kernel
theorem dX6_create_17 : decode cX6_create 17 = .ok (.iload_n 1, 1) := by decide +kernel
theorem dX6_create_18 : decode cX6_create 18 = .ok (.invokevirtual 65, 3) := by decide +kernel
theorem dX6_create_21 : decode cX6_create 21 = .ok (.if_icmp .le 13, 3) := by decide +kernel
theorem dX6_create_24 : decode cX6_create 24 = .ok (.new 71, 3) := by decide +kernel
theorem dX6_create_27 : decode cX6_create 27 = .ok (.dup, 1) := by decide +kernel
theorem dX6_create_28 : decode cX6_create 28 = .ok (.ldc 73, 2) := by decide +kernel
theorem dX6_create_30 : decode cX6_create 30 = .ok (.invokespecial 75, 3) := by decide +kernel
theorem dX6_create_33 : decode cX6_create 33 = .ok (.athrow, 1) := by decide +kernel
theorem dX6_create_34 : decode cX6_create 34 = .ok (.iload_n 3, 1) := by decide +kernel
theorem dX6_create_35 : decode cX6_create 35 = .ok (.ifCond .lt 9, 3) := by decide +kernel
theorem dX6_create_38 : decode cX6_create 38 = .ok (.iload_n 3, 1) := by decide +kernel
theorem dX6_create_39 : decode cX6_create 39 = .ok (.bipush 10, 2) := by decide +kernel
theorem dX6_create_41 : decode cX6_create 41 = .ok (.if_icmp .le 13, 3) := by decide +kernel
theorem dX6_create_44 : decode cX6_create 44 = .ok (.new 78, 3) := by decide +kernel
theorem dX6_create_47 : decode cX6_create 47 = .ok (.dup, 1) := by decide +kernel
theorem dX6_create_48 : decode cX6_create 48 = .ok (.ldc 80, 2) := by decide +kernel
theorem dX6_create_50 : decode cX6_create 50 = .ok (.invokespecial 82, 3) := by decide +kernel
theorem dX6_create_53 : decode cX6_create 53 = .ok (.athrow, 1) := by decide +kernel
theorem dX6_create_54 : decode cX6_create 54 = .ok (.aload_n 0, 1) := by decide +kernel
theorem dX6_create_55 : decode cX6_create 55 = .ok (.getfield 10, 3) := by decide +kernel
theorem dX6_create_58 : decode cX6_create 58 = .ok (.getfield 27, 3) := by decide +kernel
theorem dX6_create_61 : decode cX6_create 61 = .ok (.invokevirtual 83, 3) := by decide +kernel
theorem dX6_create_64 : decode cX6_create 64 = .ok (.istore 4, 2) := by decide +kernel
theorem dX6_create_66 : decode cX6_create 66 = .ok (.iload 4, 2) := by decide +kernel
theorem dX6_create_68 : decode cX6_create 68 = .ok (.iconst (-1), 1) := by decide +kernel
theorem dX6_create_69 : decode cX6_create 69 = .ok (.if_icmp .ne 13, 3) := by decide +kernel
theorem dX6_create_72 : decode cX6_create 72 = .ok (.new 87, 3) := by decide +kernel
theorem dX6_create_75 : decode cX6_create 75 = .ok (.dup, 1) := by decide +kernel
theorem dX6_create_76 : decode cX6_create 76 = .ok (.ldc 89, 2) := by decide +kernel
theorem dX6_create_78 : decode cX6_create 78 = .ok (.invokespecial 91, 3) := by decide +kernel
theorem dX6_create_81 : decode cX6_create 81 = .ok (.athrow, 1) := by decide +kernel
theorem dX6_create_82 : decode cX6_create 82 = .ok (.aload_n 0, 1) := by decide +kernel
theorem dX6_create_83 : decode cX6_create 83 = .ok (.invokevirtual 92, 3) := by decide +kernel
theorem dX6_create_86 : decode cX6_create 86 = .ok (.aload_n 0, 1) := by decide +kernel
theorem dX6_create_87 : decode cX6_create 87 = .ok (.getfield 10, 3) := by decide +kernel
theorem dX6_create_90 : decode cX6_create 90 = .ok (.getfield 27, 3) := by decide +kernel
theorem dX6_create_93 : decode cX6_create 93 = .ok (.iload 4, 2) := by decide +kernel
theorem dX6_create_95 : decode cX6_create 95 = .ok (.iload_n 3, 1) := by decide +kernel
theorem dX6_create_96 : decode cX6_create 96 = .ok (.invokevirtual 95, 3) := by decide +kernel
theorem dX6_create_99 : decode cX6_create 99 = .ok (.aload_n 0, 1) := by decide +kernel
theorem dX6_create_100 : decode cX6_create 100 = .ok (.getfield 10, 3) := by decide +kernel
theorem dX6_create_103 : decode cX6_create 103 = .ok (.getfield 27, 3) := by decide +kernel
theorem dX6_create_106 : decode cX6_create 106 = .ok (.iload 4, 2) := by decide +kernel
theorem dX6_create_108 : decode cX6_create 108 = .ok (.iload_n 1, 1) := by decide +kernel
theorem dX6_create_109 : decode cX6_create 109 = .ok (.iload_n 2, 1) := by decide +kernel
theorem dX6_create_110 : decode cX6_create 110 = .ok (.invokevirtual 99, 3) := by decide +kernel
theorem dX6_create_113 : decode cX6_create 113 = .ok (.iload 4, 2) := by decide +kernel
theorem dX6_create_115 : decode cX6_create 115 = .ok (.ireturn, 1) := by decide +kernel
abbrev rmX6_create : Room := { frames := 7, cells := 2, slots := 12, locals := 126 }
noncomputable def fX6_create_44 (n : Nat) (Sh : Sp) (a0 : Nat) (a1 : Int32) (a2 : Int32) (a3 : Int32) (M : Mm) : Option ((String ⊕ Int32) × Mm) :=
  some (Sum.inl "java/lang/IllegalArgumentException", M)
noncomputable def fX6_create_24 (n : Nat) (Sh : Sp) (a0 : Nat) (a1 : Int32) (a2 : Int32) (a3 : Int32) (M : Mm) : Option ((String ⊕ Int32) × Mm) :=
  some (Sum.inl "java/lang/IndexOutOfBoundsException", M)
noncomputable def fX6_create (n : Nat) (Sh : Sp) (M : Mm) (a0 : Nat) (a1 : Int32) (a2 : Int32) (a3 : Int32) : Option ((String ⊕ Int32) × Mm) :=
  xb (fX6_requireNode n Sh M a0 a1) (fun E => some (Sum.inl E, M)) <|
  if a2 < 0 then
    fX6_create_24 n Sh a0 a1 a2 a3 M
  else
    tF M a0 0 fun b3 =>
    gF Sh M b3 3 0 fun b4 =>
    chk (Sh b4 = some (.inl 4)) <|
    (fX4_kidCount n Sh M b4 a1).bind fun r5 =>
    if a2 ≤ r5 then
      if a3 < 0 then
        fX6_create_44 n Sh a0 a1 a2 a3 M
      else
        if a3 ≤ 10 then
          tF M a0 0 fun b6 =>
          gF Sh M b6 3 0 fun b7 =>
          chk (Sh b7 = some (.inl 4)) <|
          (fX4_lowestFree n Sh M b7).bind fun r8 =>
          if r8 = (-1) then
            some (Sum.inl "java/lang/IllegalStateException", M)
          else
            (fX6_keepRecord n Sh M a0).bind fun r9 =>
            tF r9 a0 0 fun b10 =>
            gF Sh r9 b10 3 0 fun b11 =>
            chk (Sh b11 = some (.inl 4)) <|
            (fX4_begin n Sh r9 b11 r8 a3).bind fun r12 =>
            tF r12 a0 0 fun b13 =>
            gF Sh r12 b13 3 0 fun b14 =>
            chk (Sh b14 = some (.inl 4)) <|
            (fX4_attach n Sh r12 b14 r8 a1 a2).bind fun r15 =>
            some (Sum.inr r8, r15)
        else
          fX6_create_44 n Sh a0 a1 a2 a3 M
    else
      fX6_create_24 n Sh a0 a1 a2 a3 M
set_option maxRecDepth 100000 in
set_option maxHeartbeats 4000000 in
theorem kX6_create {l : Launch} {G : Gt} {n : Nat} {Sh : Sp} {M : Mm} {a0 : Nat} {a1 : Int32} {a2 : Int32} {a3 : Int32} (hT : Sh a0 = some (.inl 6)) (hfl : l.stackTraces = false) {r : ((String ⊕ Int32) × Mm)} (h : fX6_create n Sh M a0 a1 a2 a3 = some r) : CtX l yX6_create cX6_create 5 (some .int) rmX6_create G Sh M [.ref a0, .int a1, .int a2, .int a3] (rsI r.1) r.2 := by
  refine CtX.of (by decide) (Nat.le_of_ble_eq_true rfl) ?_
  intro p e s m args below meth c ls C hK hX hP hS hb hlk hr hno hl
  replace hl : lv_has ls 5 [(0, .ref a0), (1, .int a1), (2, .int a2), (3, .int a3)] := hl
  have J44 : ∀ (M : Mm) (H : Heap) (locs : List Loc) (ls : Array Slot), HM G Sh M H → SS G s s.heap.size H locs → lv_has ls 5 [(0, .ref a0), (1, .int a1), (2, .int a2), (3, .int a3)] → fX6_create_44 n Sh a0 a1 a2 a3 M = some r → W p l e rmX6_create s m args below meth c H locs 1 6 (vx_MQ below (QX G Sh (rsI r.1) r.2) (XX G Sh (rsI r.1) r.2) args s rmX6_create.cells rmX6_create.slots (AA G)) (F0 m 44 ls []) := by
    intro M H locs ls hP hS hl h
    unfold fX6_create_44 at h
    have e := Option.some.inj h
    subst e
    exact x_new (rest := []) (text := "no such role") C hfl hno hX hP hS hlk hl.1 (by decide +kernel) wd_745 wd_87 (by decide +kernel) xw_82 xg_82 dX6_create_44 dX6_create_47 dX6_create_48 dX6_create_50 dX6_create_53 (by decide) (Nat.le_of_ble_eq_true rfl) (Nat.le_of_ble_eq_true rfl) (Nat.le_of_ble_eq_true rfl) (Nat.le_of_ble_eq_true rfl) (Nat.le_of_ble_eq_true rfl) rfl
  have J24 : ∀ (M : Mm) (H : Heap) (locs : List Loc) (ls : Array Slot), HM G Sh M H → SS G s s.heap.size H locs → lv_has ls 5 [(0, .ref a0), (1, .int a1), (2, .int a2), (3, .int a3)] → fX6_create_24 n Sh a0 a1 a2 a3 M = some r → W p l e rmX6_create s m args below meth c H locs 1 6 (vx_MQ below (QX G Sh (rsI r.1) r.2) (XX G Sh (rsI r.1) r.2) args s rmX6_create.cells rmX6_create.slots (AA G)) (F0 m 24 ls []) := by
    intro M H locs ls hP hS hl h
    unfold fX6_create_24 at h
    have e := Option.some.inj h
    subst e
    exact x_new (rest := []) (text := "no such position") C hfl hno hX hP hS hlk hl.1 (by decide +kernel) wd_676 wd_86 (by decide +kernel) xw_75 xg_75 dX6_create_24 dX6_create_27 dX6_create_28 dX6_create_30 dX6_create_33 (by decide) (Nat.le_of_ble_eq_true rfl) (Nat.le_of_ble_eq_true rfl) (Nat.le_of_ble_eq_true rfl) (Nat.le_of_ble_eq_true rfl) (Nat.le_of_ble_eq_true rfl) rfl
  unfold fX6_create at h
  refine lv_aload_n C.1 C.2.1 dX6_create_0 rfl (lv_at hl 0 rfl) ?_
  refine lv_iload_n C.1 C.2.1 dX6_create_1 rfl (lv_at hl 1 rfl) ?_
  obtain ⟨z2, hc, hE, h⟩ := xb_some h
  refine r_VX0 C hno hlk hK hX hb hP hS hl.1 (kX6_requireNode hT hfl hc) hT cl_6 wd_671 mo_X6_requireNode wd_673 wd_12 ⟨Nat.le_of_ble_eq_true rfl, Nat.le_of_ble_eq_true rfl⟩ ⟨Nat.le_of_ble_eq_true rfl, Nat.le_of_ble_eq_true rfl⟩ rfl (rest := []) rfl (Nat.le_of_ble_eq_true rfl) dX6_create_2 (k1 := 1) (k2 := 6) ⟨Nat.le_of_ble_eq_true rfl, Nat.le_of_ble_eq_true rfl⟩ ⟨Nat.le_of_ble_eq_true rfl, Nat.le_of_ble_eq_true rfl⟩ (fun E q => by have e := Option.some.inj (hE E q); rw [← e]; exact ⟨rfl, rfl⟩) (fun H locs hz hP hS => ?_)
  replace h := h hz
  refine lv_iload_n C.1 C.2.1 dX6_create_5 rfl (lv_at hl 2 rfl) ?_
  refine b_lt (tgt := 24) C dX6_create_6 (by decide) h (fun h => ?_) (fun h => ?_)
  · exact J24 (M) _ _ _ hP hS (lv_sub hl [0, 1, 2, 3] rfl) h
  · refine lv_iload_n C.1 C.2.1 dX6_create_9 rfl (lv_at hl 2 rfl) ?_
    refine lv_aload_n C.1 C.2.1 dX6_create_10 rfl (lv_at hl 0 rfl) ?_
    refine r_tF C hK hP hT cl_6 (k := 0) (by decide) wd_264 rfl dX6_create_11 h (fun b3 h => ?_)
    refine r_gFN C hK hP cl_3 (k := 0) (by decide) (hX.nw wd_209) rfl dX6_create_14 h (fun b4 h => ?_)
    refine lv_iload_n C.1 C.2.1 dX6_create_17 rfl (lv_at hl 1 rfl) ?_
    obtain ⟨hs, h⟩ := chk_some h
    obtain ⟨r5, hc, h⟩ := bS h
    refine r_V1 C hK hX hb hP hS hl.1 (kX4_kidCount (hs) hc) hs cl_4 wd_743 mo_X4_kidCount wd_322 wd_323 ⟨Nat.le_of_ble_eq_true rfl, Nat.le_of_ble_eq_true rfl⟩ ⟨Nat.le_of_ble_eq_true rfl, Nat.le_of_ble_eq_true rfl⟩ rfl (rest := [.int a2]) rfl (Nat.le_of_ble_eq_true rfl) dX6_create_18 (fun H locs hP hS => ?_)
    refine b_ile (tgt := 34) C dX6_create_21 (by decide) h (fun h => ?_) (fun h => ?_)
    · refine lv_iload_n C.1 C.2.1 dX6_create_34 rfl (lv_at hl 3 rfl) ?_
      refine b_lt (tgt := 44) C dX6_create_35 (by decide) h (fun h => ?_) (fun h => ?_)
      · exact J44 (M) _ _ _ hP hS (lv_sub hl [0, 1, 2, 3] rfl) h
      · refine lv_iload_n C.1 C.2.1 dX6_create_38 rfl (lv_at hl 3 rfl) ?_
        refine lv_bipush (v := 10) C.1 C.2.1 dX6_create_39 (by decide) ?_
        refine b_ile (tgt := 54) C dX6_create_41 (by decide) h (fun h => ?_) (fun h => ?_)
        · refine lv_aload_n C.1 C.2.1 dX6_create_54 rfl (lv_at hl 0 rfl) ?_
          refine r_tF C hK hP hT cl_6 (k := 0) (by decide) wd_264 rfl dX6_create_55 h (fun b6 h => ?_)
          refine r_gFN C hK hP cl_3 (k := 0) (by decide) (hX.nw wd_209) rfl dX6_create_58 h (fun b7 h => ?_)
          obtain ⟨hs, h⟩ := chk_some h
          obtain ⟨r8, hc, h⟩ := bS h
          refine r_V1 C hK hX hb hP hS hl.1 (kX4_lowestFree (hs) hc) hs cl_4 wd_761 mo_X4_lowestFree wd_762 wd_763 ⟨Nat.le_of_ble_eq_true rfl, Nat.le_of_ble_eq_true rfl⟩ ⟨Nat.le_of_ble_eq_true rfl, Nat.le_of_ble_eq_true rfl⟩ rfl (rest := []) rfl (Nat.le_of_ble_eq_true rfl) dX6_create_61 (fun H locs hP hS => ?_)
          refine lv_istore (lv' := [(4, .int r8), (0, .ref a0), (1, .int a1), (2, .int a2), (3, .int a3)]) C.1 C.2.1 dX6_create_64 hl (by decide) rfl (fun ls hl => ?_)
          refine lv_iload C.1 C.2.1 dX6_create_66 (lv_at hl 0 rfl) ?_
          refine lv_iconst (v := (-1)) C.1 C.2.1 dX6_create_68 (by decide) ?_
          refine b_ine (tgt := 82) C dX6_create_69 (by decide) h (fun h => ?_) (fun h => ?_)
          · have e := Option.some.inj h
            subst e
            exact x_new (rest := []) (text := "no node is free") C hfl hno hX hP hS hlk hl.1 (by decide +kernel) wd_765 wd_88 (by decide +kernel) xw_91 xg_91 dX6_create_72 dX6_create_75 dX6_create_76 dX6_create_78 dX6_create_81 (by decide) (Nat.le_of_ble_eq_true rfl) (Nat.le_of_ble_eq_true rfl) (Nat.le_of_ble_eq_true rfl) (Nat.le_of_ble_eq_true rfl) (Nat.le_of_ble_eq_true rfl) rfl
          · refine lv_aload_n C.1 C.2.1 dX6_create_82 rfl (lv_at hl 1 rfl) ?_
            obtain ⟨r9, hc, h⟩ := bS h
            refine r_V0 C hK hX hb hP hS hl.1 (kX6_keepRecord (hT) hc) hT cl_6 wd_394 mo_X6_keepRecord wd_396 wd_3 ⟨Nat.le_of_ble_eq_true rfl, Nat.le_of_ble_eq_true rfl⟩ ⟨Nat.le_of_ble_eq_true rfl, Nat.le_of_ble_eq_true rfl⟩ rfl (rest := []) rfl (Nat.le_of_ble_eq_true rfl) dX6_create_83 (fun H locs hP hS => ?_)
            refine lv_aload_n C.1 C.2.1 dX6_create_86 rfl (lv_at hl 1 rfl) ?_
            refine r_tF C hK hP hT cl_6 (k := 0) (by decide) wd_264 rfl dX6_create_87 h (fun b10 h => ?_)
            refine r_gFN C hK hP cl_3 (k := 0) (by decide) (hX.nw wd_209) rfl dX6_create_90 h (fun b11 h => ?_)
            refine lv_iload C.1 C.2.1 dX6_create_93 (lv_at hl 0 rfl) ?_
            refine lv_iload_n C.1 C.2.1 dX6_create_95 rfl (lv_at hl 4 rfl) ?_
            obtain ⟨hs, h⟩ := chk_some h
            obtain ⟨r12, hc, h⟩ := bS h
            refine r_V0 C hK hX hb hP hS hl.1 (kX4_begin (hs) hc) hs cl_4 wd_781 mo_X4_begin wd_137 wd_138 ⟨Nat.le_of_ble_eq_true rfl, Nat.le_of_ble_eq_true rfl⟩ ⟨Nat.le_of_ble_eq_true rfl, Nat.le_of_ble_eq_true rfl⟩ rfl (rest := []) rfl (Nat.le_of_ble_eq_true rfl) dX6_create_96 (fun H locs hP hS => ?_)
            refine lv_aload_n C.1 C.2.1 dX6_create_99 rfl (lv_at hl 1 rfl) ?_
            refine r_tF C hK hP hT cl_6 (k := 0) (by decide) wd_264 rfl dX6_create_100 h (fun b13 h => ?_)
            refine r_gFN C hK hP cl_3 (k := 0) (by decide) (hX.nw wd_209) rfl dX6_create_103 h (fun b14 h => ?_)
            refine lv_iload C.1 C.2.1 dX6_create_106 (lv_at hl 0 rfl) ?_
            refine lv_iload_n C.1 C.2.1 dX6_create_108 rfl (lv_at hl 2 rfl) ?_
            refine lv_iload_n C.1 C.2.1 dX6_create_109 rfl (lv_at hl 3 rfl) ?_
            obtain ⟨hs, h⟩ := chk_some h
            obtain ⟨r15, hc, h⟩ := bS h
            refine r_V0 C hK hX hb hP hS hl.1 (kX4_attach (hs) hc) hs cl_4 wd_782 mo_X4_attach wd_783 wd_784 ⟨Nat.le_of_ble_eq_true rfl, Nat.le_of_ble_eq_true rfl⟩ ⟨Nat.le_of_ble_eq_true rfl, Nat.le_of_ble_eq_true rfl⟩ rfl (rest := []) rfl (Nat.le_of_ble_eq_true rfl) dX6_create_110 (fun H locs hP hS => ?_)
            refine lv_iload C.1 C.2.1 dX6_create_113 (lv_at hl 0 rfl) ?_
            have e := Option.some.inj h
            refine W.widen (k := 2) (n := 12) (Nat.le_of_ble_eq_true rfl) (Nat.le_of_ble_eq_true rfl) ?_
            exact x_i C hlk hP hS hr e dX6_create_115
        · exact J44 (M) _ _ _ hP hS (lv_sub hl [0, 1, 2, 3] rfl) h
    · exact J24 (M) _ _ _ hP hS (lv_sub hl [0, 1, 2, 3] rfl) h
theorem dX6_remove_0 : decode cX6_remove 0 = .ok (.aload_n 0, 1) := by decide +kernel
theorem dX6_remove_1 : decode cX6_remove 1 = .ok (.iload_n 1, 1) := by decide +kernel
theorem dX6_remove_2 : decode cX6_remove 2 = .ok (.invokevirtual 62, 3) := by decide +kernel
theorem dX6_remove_5 : decode cX6_remove 5 = .ok (.iload_n 1, 1) := by decide +kernel
theorem dX6_remove_6 : decode cX6_remove 6 = .ok (.ifCond .ne 13, 3) := by decide +kernel
theorem dX6_remove_9 : decode cX6_remove 9 = .ok (.new 87, 3) := by decide +kernel
theorem dX6_remove_12 : decode cX6_remove 12 = .ok (.dup, 1) := by decide +kernel
theorem dX6_remove_13 : decode cX6_remove 13 = .ok (.ldc 103, 2) := by decide +kernel
theorem dX6_remove_15 : decode cX6_remove 15 = .ok (.invokespecial 91, 3) := by decide +kernel
theorem dX6_remove_18 : decode cX6_remove 18 = .ok (.athrow, 1) := by decide +kernel
theorem dX6_remove_19 : decode cX6_remove 19 = .ok (.aload_n 0, 1) := by decide +kernel
theorem dX6_remove_20 : decode cX6_remove 20 = .ok (.invokevirtual 92, 3) := by decide +kernel
theorem dX6_remove_23 : decode cX6_remove 23 = .ok (.aload_n 0, 1) := by decide +kernel
theorem dX6_remove_24 : decode cX6_remove 24 = .ok (.getfield 10, 3) := by decide +kernel
theorem dX6_remove_27 : decode cX6_remove 27 = .ok (.getfield 27, 3) := by decide +kernel
theorem dX6_remove_30 : decode cX6_remove 30 = .ok (.iload_n 1, 1) := by decide +kernel
theorem dX6_remove_31 : decode cX6_remove 31 = .ok (.invokevirtual 105, 3) := by decide +kernel
theorem dX6_remove_34 : decode cX6_remove 34 = .ok (.istore_n 2, 1) := by decide +kernel
theorem dX6_remove_35 : decode cX6_remove 35 = .ok (.aload_n 0, 1) := by decide +kernel
theorem dX6_remove_36 : decode cX6_remove 36 = .ok (.getfield 10, 3) := by decide +kernel
theorem dX6_remove_39 : decode cX6_remove 39 = .ok (.iload_n 2, 1) := by decide +kernel
theorem dX6_remove_40 : decode cX6_remove 40 = .ok (.invokevirtual 108, 3) := by decide +kernel
theorem dX6_remove_43 : decode cX6_remove 43 = .ok (.iload_n 2, 1) := by decide +kernel
theorem dX6_remove_44 : decode cX6_remove 44 = .ok (.invokestatic 111, 3) := by decide +kernel
theorem dX6_remove_47 : decode cX6_remove 47 = .ok (.ireturn, 1) := by decide +kernel
abbrev rmX6_remove : Room := { frames := 7, cells := 2, slots := 12, locals := 152 }
noncomputable def fX6_remove (n : Nat) (Sh : Sp) (M : Mm) (a0 : Nat) (a1 : Int32) : Option ((String ⊕ Int32) × Mm) :=
  xb (fX6_requireNode n Sh M a0 a1) (fun E => some (Sum.inl E, M)) <|
  if a1 = 0 then
    some (Sum.inl "java/lang/IllegalStateException", M)
  else
    (fX6_keepRecord n Sh M a0).bind fun r3 =>
    tF r3 a0 0 fun b4 =>
    gF Sh r3 b4 3 0 fun b5 =>
    chk (Sh b5 = some (.inl 4)) <|
    (fX4_maskFrom n Sh r3 b5 a1).bind fun r6 =>
    tF r3 a0 0 fun b7 =>
    chk (Sh b7 = some (.inl 3)) <|
    (fX3_forget n Sh r3 b7 r6).bind fun r8 =>
    (fJ6_bitCount_0f7a4 n Sh r8 r6).bind fun r9 =>
    some (Sum.inr r9, r8)
set_option maxRecDepth 100000 in
set_option maxHeartbeats 4000000 in
theorem kX6_remove {l : Launch} {G : Gt} {n : Nat} {Sh : Sp} {M : Mm} {a0 : Nat} {a1 : Int32} (hT : Sh a0 = some (.inl 6)) (hfl : l.stackTraces = false) {r : ((String ⊕ Int32) × Mm)} (h : fX6_remove n Sh M a0 a1 = some r) : CtX l yX6_remove cX6_remove 3 (some .int) rmX6_remove G Sh M [.ref a0, .int a1] (rsI r.1) r.2 := by
  refine CtX.of (by decide) (Nat.le_of_ble_eq_true rfl) ?_
  intro p e s m args below meth c ls C hK hX hP hS hb hlk hr hno hl
  replace hl : lv_has ls 3 [(0, .ref a0), (1, .int a1)] := hl
  unfold fX6_remove at h
  refine lv_aload_n C.1 C.2.1 dX6_remove_0 rfl (lv_at hl 0 rfl) ?_
  refine lv_iload_n C.1 C.2.1 dX6_remove_1 rfl (lv_at hl 1 rfl) ?_
  obtain ⟨z2, hc, hE, h⟩ := xb_some h
  refine r_VX0 C hno hlk hK hX hb hP hS hl.1 (kX6_requireNode hT hfl hc) hT cl_6 wd_671 mo_X6_requireNode wd_673 wd_12 ⟨Nat.le_of_ble_eq_true rfl, Nat.le_of_ble_eq_true rfl⟩ ⟨Nat.le_of_ble_eq_true rfl, Nat.le_of_ble_eq_true rfl⟩ rfl (rest := []) rfl (Nat.le_of_ble_eq_true rfl) dX6_remove_2 (k1 := 1) (k2 := 6) ⟨Nat.le_of_ble_eq_true rfl, Nat.le_of_ble_eq_true rfl⟩ ⟨Nat.le_of_ble_eq_true rfl, Nat.le_of_ble_eq_true rfl⟩ (fun E q => by have e := Option.some.inj (hE E q); rw [← e]; exact ⟨rfl, rfl⟩) (fun H locs hz hP hS => ?_)
  replace h := h hz
  refine lv_iload_n C.1 C.2.1 dX6_remove_5 rfl (lv_at hl 1 rfl) ?_
  refine b_ne (tgt := 19) C dX6_remove_6 (by decide) h (fun h => ?_) (fun h => ?_)
  · have e := Option.some.inj h
    subst e
    exact x_new (rest := []) (text := "the root stays") C hfl hno hX hP hS hlk hl.1 (by decide +kernel) wd_765 wd_88 (by decide +kernel) xw_91 xg_91 dX6_remove_9 dX6_remove_12 dX6_remove_13 dX6_remove_15 dX6_remove_18 (by decide) (Nat.le_of_ble_eq_true rfl) (Nat.le_of_ble_eq_true rfl) (Nat.le_of_ble_eq_true rfl) (Nat.le_of_ble_eq_true rfl) (Nat.le_of_ble_eq_true rfl) rfl
  · refine lv_aload_n C.1 C.2.1 dX6_remove_19 rfl (lv_at hl 0 rfl) ?_
    obtain ⟨r3, hc, h⟩ := bS h
    refine r_V0 C hK hX hb hP hS hl.1 (kX6_keepRecord (hT) hc) hT cl_6 wd_394 mo_X6_keepRecord wd_396 wd_3 ⟨Nat.le_of_ble_eq_true rfl, Nat.le_of_ble_eq_true rfl⟩ ⟨Nat.le_of_ble_eq_true rfl, Nat.le_of_ble_eq_true rfl⟩ rfl (rest := []) rfl (Nat.le_of_ble_eq_true rfl) dX6_remove_20 (fun H locs hP hS => ?_)
    refine lv_aload_n C.1 C.2.1 dX6_remove_23 rfl (lv_at hl 0 rfl) ?_
    refine r_tF C hK hP hT cl_6 (k := 0) (by decide) wd_264 rfl dX6_remove_24 h (fun b4 h => ?_)
    refine r_gFN C hK hP cl_3 (k := 0) (by decide) (hX.nw wd_209) rfl dX6_remove_27 h (fun b5 h => ?_)
    refine lv_iload_n C.1 C.2.1 dX6_remove_30 rfl (lv_at hl 1 rfl) ?_
    obtain ⟨hs, h⟩ := chk_some h
    obtain ⟨r6, hc, h⟩ := bS h
    refine r_V1 C hK hX hb hP hS hl.1 (kX4_maskFrom (hs) hc) hs cl_4 wd_293 mo_X4_maskFrom wd_294 wd_295 ⟨Nat.le_of_ble_eq_true rfl, Nat.le_of_ble_eq_true rfl⟩ ⟨Nat.le_of_ble_eq_true rfl, Nat.le_of_ble_eq_true rfl⟩ rfl (rest := []) rfl (Nat.le_of_ble_eq_true rfl) dX6_remove_31 (fun H locs hP hS => ?_)
    refine lv_istore_n (lv' := [(2, .int r6), (0, .ref a0), (1, .int a1)]) C.1 C.2.1 dX6_remove_34 rfl hl (by decide) rfl (fun ls hl => ?_)
    refine lv_aload_n C.1 C.2.1 dX6_remove_35 rfl (lv_at hl 1 rfl) ?_
    refine r_tF C hK hP hT cl_6 (k := 0) (by decide) wd_264 rfl dX6_remove_36 h (fun b7 h => ?_)
    refine lv_iload_n C.1 C.2.1 dX6_remove_39 rfl (lv_at hl 0 rfl) ?_
    obtain ⟨hs, h⟩ := chk_some h
    obtain ⟨r8, hc, h⟩ := bS h
    refine r_V0 C hK hX hb hP hS hl.1 (kX3_forget (hs) hc) hs cl_3 wd_794 mo_X3_forget wd_795 wd_796 ⟨Nat.le_of_ble_eq_true rfl, Nat.le_of_ble_eq_true rfl⟩ ⟨Nat.le_of_ble_eq_true rfl, Nat.le_of_ble_eq_true rfl⟩ rfl (rest := []) rfl (Nat.le_of_ble_eq_true rfl) dX6_remove_40 (fun H locs hP hS => ?_)
    refine lv_iload_n C.1 C.2.1 dX6_remove_43 rfl (lv_at hl 0 rfl) ?_
    obtain ⟨r9, hc, h⟩ := bS h
    refine r_S1 C hK hX hb hP hS hl.1 (kJ6_bitCount_0f7a4 hc) wd_815 mo_J6_bitCount_0f7a4 wd_816 ⟨Nat.le_of_ble_eq_true rfl, Nat.le_of_ble_eq_true rfl⟩ ⟨Nat.le_of_ble_eq_true rfl, Nat.le_of_ble_eq_true rfl⟩ rfl (rest := []) rfl (Nat.le_of_ble_eq_true rfl) dX6_remove_44 (fun H locs hP hS => ?_)
    have e := Option.some.inj h
    refine W.widen (k := 2) (n := 12) (Nat.le_of_ble_eq_true rfl) (Nat.le_of_ble_eq_true rfl) ?_
    exact x_i C hlk hP hS hr e dX6_remove_47
theorem dX6_move_0 : decode cX6_move 0 = .ok (.aload_n 0, 1) := by decide +kernel
theorem dX6_move_1 : decode cX6_move 1 = .ok (.iload_n 1, 1) := by decide +kernel
theorem dX6_move_2 : decode cX6_move 2 = .ok (.invokevirtual 62, 3) := by decide +kernel
theorem dX6_move_5 : decode cX6_move 5 = .ok (.aload_n 0, 1) := by decide +kernel
theorem dX6_move_6 : decode cX6_move 6 = .ok (.iload_n 2, 1) := by decide +kernel
theorem dX6_move_7 : decode cX6_move 7 = .ok (.invokevirtual 62, 3) := by decide +kernel
theorem dX6_move_10 : decode cX6_move 10 = .ok (.aload_n 0, 1) := by decide +kernel
theorem dX6_move_11 : decode cX6_move 11 = .ok (.getfield 10, 3) := by decide +kernel
theorem dX6_move_14 : decode cX6_move 14 = .ok (.getfield 27, 3) := by decide +kernel
theorem dX6_move_17 : decode cX6_move 17 = .ok (.astore 4, 2) := by decide +kernel
theorem dX6_move_19 : decode cX6_move 19 = .ok (.iload_n 1, 1) := by decide +kernel
theorem dX6_move_20 : decode cX6_move 20 = .ok (.ifCond .eq 18, 3) := by decide +kernel
theorem dX6_move_23 : decode cX6_move 23 = .ok (.iload_n 2, 1) := by decide +kernel
theorem dX6_move_24 : decode cX6_move 24 = .ok (.iload_n 1, 1) := by decide +kernel
theorem dX6_move_25 : decode cX6_move 25 = .ok (.if_icmp .eq 13, 3) := by decide +kernel
theorem dX6_move_28 : decode cX6_move 28 = .ok (.aload 4, 2) := by decide +kernel
theorem dX6_move_30 : decode cX6_move 30 = .ok (.iload_n 2, 1) := by decide +kernel
theorem dX6_move_31 : decode cX6_move 31 = .ok (.iload_n 1, 1) := by decide +kernel
theorem dX6_move_32 : decode cX6_move 32 = .ok (.invokevirtual 116, 3) := by decide +kernel
theorem dX6_move_35 : decode cX6_move 35 = .ok (.ifCond .eq 13, 3) := by decide +kernel
theorem dX6_move_38 : decode cX6_move 38 = .ok (.new 87, 3) := by decide +kernel
theorem dX6_move_41 : decode cX6_move 41 = .ok (.dup, 1) := by decide +kernel
theorem dX6_move_42 : decode cX6_move 42 = .ok (.ldc 120, 2) := by decide +kernel
theorem dX6_move_44 : decode cX6_move 44 = .ok (.invokespecial 91, 3) := by decide +kernel
theorem dX6_move_47 : decode cX6_move 47 = .ok (.athrow, 1) := by decide +kernel
theorem dX6_move_48 : decode cX6_move 48 = .ok (.aload 4, 2) := by decide +kernel
theorem dX6_move_50 : decode cX6_move 50 = .ok (.iload_n 1, 1) := by decide +kernel
theorem dX6_move_51 : decode cX6_move 51 = .ok (.invokevirtual 122, 3) := by decide +kernel
theorem dX6_move_54 : decode cX6_move 54 = .ok (.istore 5, 2) := by decide +kernel
theorem dX6_move_56 : decode cX6_move 56 = .ok (.iload 5, 2) := by decide +kernel
theorem dX6_move_58 : decode cX6_move 58 = .ok (.iload_n 2, 1) := by decide +kernel
theorem dX6_move_59 : decode cX6_move 59 = .ok (.if_icmp .ne 14, 3) := by decide +kernel
theorem dX6_move_62 : decode cX6_move 62 = .ok (.aload 4, 2) := by decide +kernel
theorem dX6_move_64 : decode cX6_move 64 = .ok (.iload_n 2, 1) := by decide +kernel
theorem dX6_move_65 : decode cX6_move 65 = .ok (.invokevirtual 65, 3) := by decide +kernel
theorem dX6_move_68 : decode cX6_move 68 = .ok (.iconst 1, 1) := by decide +kernel
theorem dX6_move_69 : decode cX6_move 69 = .ok (.isub, 1) := by decide +kernel
theorem dX6_move_70 : decode cX6_move 70 = .ok (.goto 9, 3) := by decide +kernel
theorem dX6_move_73 : decode cX6_move 73 = .ok (.aload 4, 2) := by decide +kernel
theorem dX6_move_75 : decode cX6_move 75 = .ok (.iload_n 2, 1) := by decide +kernel
theorem dX6_move_76 : decode cX6_move 76 = .ok (.invokevirtual 65, 3) := by decide +kernel
theorem dX6_move_79 : decode cX6_move 79 = .ok (.istore 6, 2) := by decide +kernel
theorem dX6_move_81 : decode cX6_move 81 = .ok (.iload_n 3, 1) := by decide +kernel
theorem dX6_move_82 : decode cX6_move 82 = .ok (.ifCond .lt 9, 3) := by decide +kernel
theorem dX6_move_85 : decode cX6_move 85 = .ok (.iload_n 3, 1) := by decide +kernel
theorem dX6_move_86 : decode cX6_move 86 = .ok (.iload 6, 2) := by decide +kernel
theorem dX6_move_88 : decode cX6_move 88 = .ok (.if_icmp .le 13, 3) := by decide +kernel
theorem dX6_move_91 : decode cX6_move 91 = .ok (.new 78, 3) := by decide +kernel
theorem dX6_move_94 : decode cX6_move 94 = .ok (.dup, 1) := by decide +kernel
theorem dX6_move_95 : decode cX6_move 95 = .ok (.ldc 73, 2) := by decide +kernel
theorem dX6_move_97 : decode cX6_move 97 = .ok (.invokespecial 82, 3) := by decide +kernel
theorem dX6_move_100 : decode cX6_move 100 = .ok (.athrow, 1) := by decide +kernel
theorem dX6_move_101 : decode cX6_move 101 = .ok (.aload_n 0, 1) := by decide +kernel
theorem dX6_move_102 : decode cX6_move 102 = .ok (.invokevirtual 92, 3) := by decide +kernel
theorem dX6_move_105 : decode cX6_move 105 = .ok (.aload 4, 2) := by decide +kernel
theorem dX6_move_107 : decode cX6_move 107 = .ok (.iload_n 1, 1) := by decide +kernel
theorem dX6_move_108 : decode cX6_move 108 = .ok (.invokevirtual 125, 3) := by decide +kernel
theorem dX6_move_111 : decode cX6_move 111 = .ok (.aload 4, 2) := by decide +kernel
theorem dX6_move_113 : decode cX6_move 113 = .ok (.iload_n 1, 1) := by decide +kernel
theorem dX6_move_114 : decode cX6_move 114 = .ok (.iload_n 2, 1) := by decide +kernel
theorem dX6_move_115 : decode cX6_move 115 = .ok (.iload_n 3, 1) := by decide +kernel
theorem dX6_move_116 : decode cX6_move 116 = .ok (.invokevirtual 99, 3) := by decide +kernel
theorem dX6_move_119 : decode cX6_move 119 = .ok (.iload 5, 2) := by decide +kernel
theorem dX6_move_121 : decode cX6_move 121 = .ok (.ireturn, 1) := by decide +kernel
abbrev rmX6_move : Room := { frames := 7, cells := 3, slots := 18, locals := 126 }
noncomputable def fX6_move_91 (n : Nat) (Sh : Sp) (a0 : Nat) (a1 : Int32) (a2 : Int32) (a3 : Int32) (M : Mm) : Option ((String ⊕ Int32) × Mm) :=
  some (Sum.inl "java/lang/IllegalArgumentException", M)
noncomputable def fX6_move_79 (n : Nat) (Sh : Sp) (a0 : Nat) (a1 : Int32) (a2 : Int32) (a3 : Int32) (M : Mm) (v4 : Nat) (v5 : Int32) (t0 : Int32) : Option ((String ⊕ Int32) × Mm) :=
  if a3 < 0 then
    fX6_move_91 n Sh a0 a1 a2 a3 M
  else
    if a3 ≤ t0 then
      (fX6_keepRecord n Sh M a0).bind fun r1 =>
      chk (Sh v4 = some (.inl 4)) <|
      (fX4_detach n Sh r1 v4 a1).bind fun r2 =>
      chk (Sh v4 = some (.inl 4)) <|
      (fX4_attach n Sh r2 v4 a1 a2 a3).bind fun r3 =>
      some (Sum.inr v5, r3)
    else
      fX6_move_91 n Sh a0 a1 a2 a3 M
noncomputable def fX6_move_38 (n : Nat) (Sh : Sp) (a0 : Nat) (a1 : Int32) (a2 : Int32) (a3 : Int32) (M : Mm) : Option ((String ⊕ Int32) × Mm) :=
  some (Sum.inl "java/lang/IllegalStateException", M)
noncomputable def fX6_move (n : Nat) (Sh : Sp) (M : Mm) (a0 : Nat) (a1 : Int32) (a2 : Int32) (a3 : Int32) : Option ((String ⊕ Int32) × Mm) :=
  xb (fX6_requireNode n Sh M a0 a1) (fun E => some (Sum.inl E, M)) <|
  xb (fX6_requireNode n Sh M a0 a2) (fun E => some (Sum.inl E, M)) <|
  tF M a0 0 fun b8 =>
  gF Sh M b8 3 0 fun b9 =>
  if a1 = 0 then
    fX6_move_38 n Sh a0 a1 a2 a3 M
  else
    if a2 = a1 then
      fX6_move_38 n Sh a0 a1 a2 a3 M
    else
      chk (Sh b9 = some (.inl 4)) <|
      (fX4_liesBelow n Sh M b9 a2 a1).bind fun r10 =>
      if r10 = 0 then
        chk (Sh b9 = some (.inl 4)) <|
        (fX4_parentOf n Sh M b9 a1).bind fun r11 =>
        if r11 = a2 then
          chk (Sh b9 = some (.inl 4)) <|
          (fX4_kidCount n Sh M b9 a2).bind fun r12 =>
          fX6_move_79 n Sh a0 a1 a2 a3 M b9 r11 (r12 - 1)
        else
          chk (Sh b9 = some (.inl 4)) <|
          (fX4_kidCount n Sh M b9 a2).bind fun r13 =>
          fX6_move_79 n Sh a0 a1 a2 a3 M b9 r11 r13
      else
        fX6_move_38 n Sh a0 a1 a2 a3 M
set_option maxRecDepth 100000 in
set_option maxHeartbeats 4000000 in
theorem kX6_move {l : Launch} {G : Gt} {n : Nat} {Sh : Sp} {M : Mm} {a0 : Nat} {a1 : Int32} {a2 : Int32} {a3 : Int32} (hT : Sh a0 = some (.inl 6)) (hfl : l.stackTraces = false) {r : ((String ⊕ Int32) × Mm)} (h : fX6_move n Sh M a0 a1 a2 a3 = some r) : CtX l yX6_move cX6_move 7 (some .int) rmX6_move G Sh M [.ref a0, .int a1, .int a2, .int a3] (rsI r.1) r.2 := by
  refine CtX.of (by decide) (Nat.le_of_ble_eq_true rfl) ?_
  intro p e s m args below meth c ls C hK hX hP hS hb hlk hr hno hl
  replace hl : lv_has ls 7 [(0, .ref a0), (1, .int a1), (2, .int a2), (3, .int a3)] := hl
  have J91 : ∀ (M : Mm) (H : Heap) (locs : List Loc) (ls : Array Slot), HM G Sh M H → SS G s s.heap.size H locs → lv_has ls 7 [(0, .ref a0), (1, .int a1), (2, .int a2), (3, .int a3)] → fX6_move_91 n Sh a0 a1 a2 a3 M = some r → W p l e rmX6_move s m args below meth c H locs 2 12 (vx_MQ below (QX G Sh (rsI r.1) r.2) (XX G Sh (rsI r.1) r.2) args s rmX6_move.cells rmX6_move.slots (AA G)) (F0 m 91 ls []) := by
    intro M H locs ls hP hS hl h
    unfold fX6_move_91 at h
    have e := Option.some.inj h
    subst e
    exact x_new (rest := []) (text := "no such position") C hfl hno hX hP hS hlk hl.1 (by decide +kernel) wd_745 wd_87 (by decide +kernel) xw_82 xg_82 dX6_move_91 dX6_move_94 dX6_move_95 dX6_move_97 dX6_move_100 (by decide) (Nat.le_of_ble_eq_true rfl) (Nat.le_of_ble_eq_true rfl) (Nat.le_of_ble_eq_true rfl) (Nat.le_of_ble_eq_true rfl) (Nat.le_of_ble_eq_true rfl) rfl
  have J79 : ∀ (M : Mm) (v4 : Nat) (v5 : Int32) (t0 : Int32) (H : Heap) (locs : List Loc) (ls : Array Slot), HM G Sh M H → SS G s s.heap.size H locs → lv_has ls 7 [(0, .ref a0), (1, .int a1), (2, .int a2), (3, .int a3), (4, .ref v4), (5, .int v5)] → fX6_move_79 n Sh a0 a1 a2 a3 M v4 v5 t0 = some r → W p l e rmX6_move s m args below meth c H locs 2 12 (vx_MQ below (QX G Sh (rsI r.1) r.2) (XX G Sh (rsI r.1) r.2) args s rmX6_move.cells rmX6_move.slots (AA G)) (F0 m 79 ls [.int t0]) := by
    intro M v4 v5 t0 H locs ls hP hS hl h
    unfold fX6_move_79 at h
    refine lv_istore (lv' := [(6, .int t0), (0, .ref a0), (1, .int a1), (2, .int a2), (3, .int a3), (4, .ref v4), (5, .int v5)]) C.1 C.2.1 dX6_move_79 hl (by decide) rfl (fun ls hl => ?_)
    refine lv_iload_n C.1 C.2.1 dX6_move_81 rfl (lv_at hl 4 rfl) ?_
    refine b_lt (tgt := 91) C dX6_move_82 (by decide) h (fun h => ?_) (fun h => ?_)
    · exact J91 (M) _ _ _ hP hS (lv_sub hl [1, 2, 3, 4] rfl) h
    · refine lv_iload_n C.1 C.2.1 dX6_move_85 rfl (lv_at hl 4 rfl) ?_
      refine lv_iload C.1 C.2.1 dX6_move_86 (lv_at hl 0 rfl) ?_
      refine b_ile (tgt := 101) C dX6_move_88 (by decide) h (fun h => ?_) (fun h => ?_)
      · refine lv_aload_n C.1 C.2.1 dX6_move_101 rfl (lv_at hl 1 rfl) ?_
        obtain ⟨r1, hc, h⟩ := bS h
        refine r_V0 C hK hX hb hP hS hl.1 (kX6_keepRecord (hT) hc) hT cl_6 wd_394 mo_X6_keepRecord wd_396 wd_3 ⟨Nat.le_of_ble_eq_true rfl, Nat.le_of_ble_eq_true rfl⟩ ⟨Nat.le_of_ble_eq_true rfl, Nat.le_of_ble_eq_true rfl⟩ rfl (rest := []) rfl (Nat.le_of_ble_eq_true rfl) dX6_move_102 (fun H locs hP hS => ?_)
        refine lv_aload C.1 C.2.1 dX6_move_105 (lv_at hl 5 rfl) ?_
        refine lv_iload_n C.1 C.2.1 dX6_move_107 rfl (lv_at hl 2 rfl) ?_
        obtain ⟨hs, h⟩ := chk_some h
        obtain ⟨r2, hc, h⟩ := bS h
        refine r_V0 C hK hX hb hP hS hl.1 (kX4_detach (hs) hc) hs cl_4 wd_831 mo_X4_detach wd_806 wd_807 ⟨Nat.le_of_ble_eq_true rfl, Nat.le_of_ble_eq_true rfl⟩ ⟨Nat.le_of_ble_eq_true rfl, Nat.le_of_ble_eq_true rfl⟩ rfl (rest := []) rfl (Nat.le_of_ble_eq_true rfl) dX6_move_108 (fun H locs hP hS => ?_)
        refine lv_aload C.1 C.2.1 dX6_move_111 (lv_at hl 5 rfl) ?_
        refine lv_iload_n C.1 C.2.1 dX6_move_113 rfl (lv_at hl 2 rfl) ?_
        refine lv_iload_n C.1 C.2.1 dX6_move_114 rfl (lv_at hl 3 rfl) ?_
        refine lv_iload_n C.1 C.2.1 dX6_move_115 rfl (lv_at hl 4 rfl) ?_
        obtain ⟨hs, h⟩ := chk_some h
        obtain ⟨r3, hc, h⟩ := bS h
        refine r_V0 C hK hX hb hP hS hl.1 (kX4_attach (hs) hc) hs cl_4 wd_782 mo_X4_attach wd_783 wd_784 ⟨Nat.le_of_ble_eq_true rfl, Nat.le_of_ble_eq_true rfl⟩ ⟨Nat.le_of_ble_eq_true rfl, Nat.le_of_ble_eq_true rfl⟩ rfl (rest := []) rfl (Nat.le_of_ble_eq_true rfl) dX6_move_116 (fun H locs hP hS => ?_)
        refine lv_iload C.1 C.2.1 dX6_move_119 (lv_at hl 6 rfl) ?_
        have e := Option.some.inj h
        refine W.widen (k := 3) (n := 18) (Nat.le_of_ble_eq_true rfl) (Nat.le_of_ble_eq_true rfl) ?_
        exact x_i C hlk hP hS hr e dX6_move_121
      · exact J91 (M) _ _ _ hP hS (lv_sub hl [1, 2, 3, 4] rfl) h
  have J38 : ∀ (M : Mm) (H : Heap) (locs : List Loc) (ls : Array Slot), HM G Sh M H → SS G s s.heap.size H locs → lv_has ls 7 [(0, .ref a0), (1, .int a1), (2, .int a2), (3, .int a3)] → fX6_move_38 n Sh a0 a1 a2 a3 M = some r → W p l e rmX6_move s m args below meth c H locs 2 12 (vx_MQ below (QX G Sh (rsI r.1) r.2) (XX G Sh (rsI r.1) r.2) args s rmX6_move.cells rmX6_move.slots (AA G)) (F0 m 38 ls []) := by
    intro M H locs ls hP hS hl h
    unfold fX6_move_38 at h
    have e := Option.some.inj h
    subst e
    exact x_new (rest := []) (text := "the node cannot go there") C hfl hno hX hP hS hlk hl.1 (by decide +kernel) wd_765 wd_88 (by decide +kernel) xw_91 xg_91 dX6_move_38 dX6_move_41 dX6_move_42 dX6_move_44 dX6_move_47 (by decide) (Nat.le_of_ble_eq_true rfl) (Nat.le_of_ble_eq_true rfl) (Nat.le_of_ble_eq_true rfl) (Nat.le_of_ble_eq_true rfl) (Nat.le_of_ble_eq_true rfl) rfl
  unfold fX6_move at h
  refine lv_aload_n C.1 C.2.1 dX6_move_0 rfl (lv_at hl 0 rfl) ?_
  refine lv_iload_n C.1 C.2.1 dX6_move_1 rfl (lv_at hl 1 rfl) ?_
  obtain ⟨z5, hc, hE, h⟩ := xb_some h
  refine r_VX0 C hno hlk hK hX hb hP hS hl.1 (kX6_requireNode hT hfl hc) hT cl_6 wd_671 mo_X6_requireNode wd_673 wd_12 ⟨Nat.le_of_ble_eq_true rfl, Nat.le_of_ble_eq_true rfl⟩ ⟨Nat.le_of_ble_eq_true rfl, Nat.le_of_ble_eq_true rfl⟩ rfl (rest := []) rfl (Nat.le_of_ble_eq_true rfl) dX6_move_2 (k1 := 1) (k2 := 6) ⟨Nat.le_of_ble_eq_true rfl, Nat.le_of_ble_eq_true rfl⟩ ⟨Nat.le_of_ble_eq_true rfl, Nat.le_of_ble_eq_true rfl⟩ (fun E q => by have e := Option.some.inj (hE E q); rw [← e]; exact ⟨rfl, rfl⟩) (fun H locs hz hP hS => ?_)
  replace h := h hz
  refine lv_aload_n C.1 C.2.1 dX6_move_5 rfl (lv_at hl 0 rfl) ?_
  refine lv_iload_n C.1 C.2.1 dX6_move_6 rfl (lv_at hl 2 rfl) ?_
  obtain ⟨z7, hc, hE, h⟩ := xb_some h
  refine r_VX0 C hno hlk hK hX hb hP hS hl.1 (kX6_requireNode hT hfl hc) hT cl_6 wd_671 mo_X6_requireNode wd_673 wd_12 ⟨Nat.le_of_ble_eq_true rfl, Nat.le_of_ble_eq_true rfl⟩ ⟨Nat.le_of_ble_eq_true rfl, Nat.le_of_ble_eq_true rfl⟩ rfl (rest := []) rfl (Nat.le_of_ble_eq_true rfl) dX6_move_7 (k1 := 2) (k2 := 12) ⟨Nat.le_of_ble_eq_true rfl, Nat.le_of_ble_eq_true rfl⟩ ⟨Nat.le_of_ble_eq_true rfl, Nat.le_of_ble_eq_true rfl⟩ (fun E q => by have e := Option.some.inj (hE E q); rw [← e]; exact ⟨rfl, rfl⟩) (fun H locs hz hP hS => ?_)
  replace h := h hz
  refine lv_aload_n C.1 C.2.1 dX6_move_10 rfl (lv_at hl 0 rfl) ?_
  refine r_tF C hK hP hT cl_6 (k := 0) (by decide) wd_264 rfl dX6_move_11 h (fun b8 h => ?_)
  refine r_gFN C hK hP cl_3 (k := 0) (by decide) (hX.nw wd_209) rfl dX6_move_14 h (fun b9 h => ?_)
  refine lv_astore (lv' := [(4, .ref b9), (0, .ref a0), (1, .int a1), (2, .int a2), (3, .int a3)]) C.1 C.2.1 dX6_move_17 hl (by decide) rfl (fun ls hl => ?_)
  refine lv_iload_n C.1 C.2.1 dX6_move_19 rfl (lv_at hl 2 rfl) ?_
  refine b_eq (tgt := 38) C dX6_move_20 (by decide) h (fun h => ?_) (fun h => ?_)
  · exact J38 (M) _ _ _ hP hS (lv_sub hl [1, 2, 3, 4] rfl) h
  · refine lv_iload_n C.1 C.2.1 dX6_move_23 rfl (lv_at hl 3 rfl) ?_
    refine lv_iload_n C.1 C.2.1 dX6_move_24 rfl (lv_at hl 2 rfl) ?_
    refine b_ieq (tgt := 38) C dX6_move_25 (by decide) h (fun h => ?_) (fun h => ?_)
    · exact J38 (M) _ _ _ hP hS (lv_sub hl [1, 2, 3, 4] rfl) h
    · refine lv_aload C.1 C.2.1 dX6_move_28 (lv_at hl 0 rfl) ?_
      refine lv_iload_n C.1 C.2.1 dX6_move_30 rfl (lv_at hl 3 rfl) ?_
      refine lv_iload_n C.1 C.2.1 dX6_move_31 rfl (lv_at hl 2 rfl) ?_
      obtain ⟨hs, h⟩ := chk_some h
      obtain ⟨r10, hc, h⟩ := bS h
      refine r_V1 C hK hX hb hP hS hl.1 (kX4_liesBelow (hs) hc) hs cl_4 wd_828 mo_X4_liesBelow wd_302 wd_303 ⟨Nat.le_of_ble_eq_true rfl, Nat.le_of_ble_eq_true rfl⟩ ⟨Nat.le_of_ble_eq_true rfl, Nat.le_of_ble_eq_true rfl⟩ rfl (rest := []) rfl (Nat.le_of_ble_eq_true rfl) dX6_move_32 (fun H locs hP hS => ?_)
      refine b_eq (tgt := 48) C dX6_move_35 (by decide) h (fun h => ?_) (fun h => ?_)
      · refine lv_aload C.1 C.2.1 dX6_move_48 (lv_at hl 0 rfl) ?_
        refine lv_iload_n C.1 C.2.1 dX6_move_50 rfl (lv_at hl 2 rfl) ?_
        obtain ⟨hs, h⟩ := chk_some h
        obtain ⟨r11, hc, h⟩ := bS h
        refine r_V1 C hK hX hb hP hS hl.1 (kX4_parentOf (hs) hc) hs cl_4 wd_830 mo_X4_parentOf wd_306 wd_307 ⟨Nat.le_of_ble_eq_true rfl, Nat.le_of_ble_eq_true rfl⟩ ⟨Nat.le_of_ble_eq_true rfl, Nat.le_of_ble_eq_true rfl⟩ rfl (rest := []) rfl (Nat.le_of_ble_eq_true rfl) dX6_move_51 (fun H locs hP hS => ?_)
        refine lv_istore (lv' := [(5, .int r11), (4, .ref b9), (0, .ref a0), (1, .int a1), (2, .int a2), (3, .int a3)]) C.1 C.2.1 dX6_move_54 hl (by decide) rfl (fun ls hl => ?_)
        refine lv_iload C.1 C.2.1 dX6_move_56 (lv_at hl 0 rfl) ?_
        refine lv_iload_n C.1 C.2.1 dX6_move_58 rfl (lv_at hl 4 rfl) ?_
        refine b_ine (tgt := 73) C dX6_move_59 (by decide) h (fun h => ?_) (fun h => ?_)
        · refine lv_aload C.1 C.2.1 dX6_move_62 (lv_at hl 1 rfl) ?_
          refine lv_iload_n C.1 C.2.1 dX6_move_64 rfl (lv_at hl 4 rfl) ?_
          obtain ⟨hs, h⟩ := chk_some h
          obtain ⟨r12, hc, h⟩ := bS h
          refine r_V1 C hK hX hb hP hS hl.1 (kX4_kidCount (hs) hc) hs cl_4 wd_743 mo_X4_kidCount wd_322 wd_323 ⟨Nat.le_of_ble_eq_true rfl, Nat.le_of_ble_eq_true rfl⟩ ⟨Nat.le_of_ble_eq_true rfl, Nat.le_of_ble_eq_true rfl⟩ rfl (rest := []) rfl (Nat.le_of_ble_eq_true rfl) dX6_move_65 (fun H locs hP hS => ?_)
          refine lv_iconst (v := 1) C.1 C.2.1 dX6_move_68 (by decide) ?_
          refine lv_isub C.1 C.2.1 dX6_move_69 ?_
          refine lv_goto (tgt := 79) C.1 C.2.1 dX6_move_70 (by decide) ?_
          exact J79 (M) (b9) (r11) ((r12 - 1)) _ _ _ hP hS (lv_sub hl [2, 3, 4, 5, 1, 0] rfl) h
        · refine lv_aload C.1 C.2.1 dX6_move_73 (lv_at hl 1 rfl) ?_
          refine lv_iload_n C.1 C.2.1 dX6_move_75 rfl (lv_at hl 4 rfl) ?_
          obtain ⟨hs, h⟩ := chk_some h
          obtain ⟨r13, hc, h⟩ := bS h
          refine r_V1 C hK hX hb hP hS hl.1 (kX4_kidCount (hs) hc) hs cl_4 wd_743 mo_X4_kidCount wd_322 wd_323 ⟨Nat.le_of_ble_eq_true rfl, Nat.le_of_ble_eq_true rfl⟩ ⟨Nat.le_of_ble_eq_true rfl, Nat.le_of_ble_eq_true rfl⟩ rfl (rest := []) rfl (Nat.le_of_ble_eq_true rfl) dX6_move_76 (fun H locs hP hS => ?_)
          exact J79 (M) (b9) (r11) (r13) _ _ _ hP hS (lv_sub hl [2, 3, 4, 5, 1, 0] rfl) h
      · exact J38 (M) _ _ _ hP hS (lv_sub hl [1, 2, 3, 4] rfl) h
theorem dX6_nodes_0 : decode cX6_nodes 0 = .ok (.aload_n 0, 1) := by decide +kernel
theorem dX6_nodes_1 : decode cX6_nodes 1 = .ok (.getfield 10, 3) := by decide +kernel
theorem dX6_nodes_4 : decode cX6_nodes 4 = .ok (.getfield 27, 3) := by decide +kernel
theorem dX6_nodes_7 : decode cX6_nodes 7 = .ok (.iconst 0, 1) := by decide +kernel
theorem dX6_nodes_8 : decode cX6_nodes 8 = .ok (.invokevirtual 105, 3) := by decide +kernel
theorem dX6_nodes_11 : decode cX6_nodes 11 = .ok (.ireturn, 1) := by decide +kernel
abbrev rmX6_nodes : Room := { frames := 4, cells := 0, slots := 0, locals := 108 }
noncomputable def fX6_nodes (n : Nat) (Sh : Sp) (M : Mm) (a0 : Nat) : Option Int32 :=
  tF M a0 0 fun b1 =>
  gF Sh M b1 3 0 fun b2 =>
  chk (Sh b2 = some (.inl 4)) <|
  (fX4_maskFrom n Sh M b2 0).bind fun r3 =>
  some r3
set_option maxRecDepth 100000 in
set_option maxHeartbeats 4000000 in
theorem kX6_nodes {l : Launch} {G : Gt} {n : Nat} {Sh : Sp} {M : Mm} {a0 : Nat} (hT : Sh a0 = some (.inl 6)) {r : Int32} (h : fX6_nodes n Sh M a0 = some r) : Ct l yX6_nodes cX6_nodes 1 (some .int) rmX6_nodes G Sh M [.ref a0] (some (.int r)) M := by
  refine Ct.of (by decide) (Nat.le_of_ble_eq_true rfl) ?_
  intro p e s m args below meth c ls C hK hX hP hS hb hlk hr hl
  replace hl : lv_has ls 1 [(0, .ref a0)] := hl
  unfold fX6_nodes at h
  refine lv_aload_n C.1 C.2.1 dX6_nodes_0 rfl (lv_at hl 0 rfl) ?_
  refine r_tF C hK hP hT cl_6 (k := 0) (by decide) wd_264 rfl dX6_nodes_1 h (fun b1 h => ?_)
  refine r_gFN C hK hP cl_3 (k := 0) (by decide) (hX.nw wd_209) rfl dX6_nodes_4 h (fun b2 h => ?_)
  refine lv_iconst (v := 0) C.1 C.2.1 dX6_nodes_7 (by decide) ?_
  obtain ⟨hs, h⟩ := chk_some h
  obtain ⟨r3, hc, h⟩ := bS h
  refine r_V1 C hK hX hb hP hS hl.1 (kX4_maskFrom (hs) hc) hs cl_4 wd_293 mo_X4_maskFrom wd_294 wd_295 ⟨Nat.le_of_ble_eq_true rfl, Nat.le_of_ble_eq_true rfl⟩ ⟨Nat.le_of_ble_eq_true rfl, Nat.le_of_ble_eq_true rfl⟩ rfl (rest := []) rfl (Nat.le_of_ble_eq_true rfl) dX6_nodes_8 (fun H locs hP hS => ?_)
  have e := Option.some.inj h
  exact q_i C hlk hP hS hr (by rw [← e]) rfl dX6_nodes_11
theorem dX6_requireKind_0 : decode cX6_requireKind 0 = .ok (.iload_n 0, 1) := by decide +kernel
theorem dX6_requireKind_1 : decode cX6_requireKind 1 = .ok (.ifCond .lt 8, 3) := by decide +kernel
theorem dX6_requireKind_4 : decode cX6_requireKind 4 = .ok (.iload_n 0, 1) := by decide +kernel
theorem dX6_requireKind_5 : decode cX6_requireKind 5 = .ok (.iload_n 1, 1) := by decide +kernel
theorem dX6_requireKind_6 : decode cX6_requireKind 6 = .ok (.if_icmp .lt 14, 3) := by decide +kernel
theorem dX6_requireKind_9 : decode cX6_requireKind 9 = .ok (.new 78, 3) := by decide +kernel
theorem dX6_requireKind_12 : decode cX6_requireKind 12 = .ok (.dup, 1) := by decide +kernel
theorem dX6_requireKind_13 : decode cX6_requireKind 13 = .ok (.ldc_w 341, 3) := by decide +kernel
theorem dX6_requireKind_16 : decode cX6_requireKind 16 = .ok (.invokespecial 82, 3) := by decide +kernel
theorem dX6_requireKind_19 : decode cX6_requireKind 19 = .ok (.athrow, 1) := by decide +kernel
theorem dX6_requireKind_20 : decode cX6_requireKind 20 = .ok (.return_, 1) := by decide +kernel
abbrev rmX6_requireKind : Room := { frames := 6, cells := 1, slots := 6, locals := 100 }
noncomputable def fX6_requireKind_9 (n : Nat) (Sh : Sp) (M : Mm) (a0 : Int32) (a1 : Int32) : Option (String ⊕ Unit) :=
  some (Sum.inl "java/lang/IllegalArgumentException")
noncomputable def fX6_requireKind (n : Nat) (Sh : Sp) (M : Mm) (a0 : Int32) (a1 : Int32) : Option (String ⊕ Unit) :=
  if a0 < 0 then
    fX6_requireKind_9 n Sh M a0 a1
  else
    if a0 < a1 then
      some (Sum.inr ())
    else
      fX6_requireKind_9 n Sh M a0 a1
set_option maxRecDepth 100000 in
set_option maxHeartbeats 4000000 in
theorem kX6_requireKind {l : Launch} {G : Gt} {n : Nat} {Sh : Sp} {M : Mm} {a0 : Int32} {a1 : Int32} (hfl : l.stackTraces = false) {r : (String ⊕ Unit)} (h : fX6_requireKind n Sh M a0 a1 = some r) : CtX l yX6_requireKind cX6_requireKind 2 none rmX6_requireKind G Sh M [.int a0, .int a1] (rsU r) M := by
  refine CtX.of (by decide) (Nat.le_of_ble_eq_true rfl) ?_
  intro p e s m args below meth c ls C hK hX hP hS hb hlk hr hno hl
  replace hl : lv_has ls 2 [(0, .int a0), (1, .int a1)] := hl
  have J9 : ∀ (H : Heap) (locs : List Loc) (ls : Array Slot), HM G Sh M H → SS G s s.heap.size H locs → lv_has ls 2 [(0, .int a0), (1, .int a1)] → fX6_requireKind_9 n Sh M a0 a1 = some r → W p l e rmX6_requireKind s m args below meth c H locs 0 0 (vx_MQ below (QX G Sh (rsU r) M) (XX G Sh (rsU r) M) args s rmX6_requireKind.cells rmX6_requireKind.slots (AA G)) (F0 m 9 ls []) := by
    intro  H locs ls hP hS hl h
    unfold fX6_requireKind_9 at h
    have e := Option.some.inj h
    subst e
    exact x_newW (rest := []) (text := "no such thing") C hfl hno hX hP hS hlk hl.1 (by decide +kernel) wd_745 wd_87 (by decide +kernel) xw_82 xg_82 dX6_requireKind_9 dX6_requireKind_12 dX6_requireKind_13 dX6_requireKind_16 dX6_requireKind_19 (by decide) (Nat.le_of_ble_eq_true rfl) (Nat.le_of_ble_eq_true rfl) (Nat.le_of_ble_eq_true rfl) (Nat.le_of_ble_eq_true rfl) (Nat.le_of_ble_eq_true rfl) rfl
  unfold fX6_requireKind at h
  refine lv_iload_n C.1 C.2.1 dX6_requireKind_0 rfl (lv_at hl 0 rfl) ?_
  refine b_lt (tgt := 9) C dX6_requireKind_1 (by decide) h (fun h => ?_) (fun h => ?_)
  · exact J9  _ _ _ hP hS (lv_sub hl [0, 1] rfl) h
  · refine lv_iload_n C.1 C.2.1 dX6_requireKind_4 rfl (lv_at hl 0 rfl) ?_
    refine lv_iload_n C.1 C.2.1 dX6_requireKind_5 rfl (lv_at hl 1 rfl) ?_
    refine b_ilt (tgt := 20) C dX6_requireKind_6 (by decide) h (fun h => ?_) (fun h => ?_)
    · have e := Option.some.inj h
      refine W.widen (k := 1) (n := 6) (Nat.le_of_ble_eq_true rfl) (Nat.le_of_ble_eq_true rfl) ?_
      exact x_vr C hlk hP hS hr e dX6_requireKind_20
    · exact J9  _ _ _ hP hS (lv_sub hl [0, 1] rfl) h
