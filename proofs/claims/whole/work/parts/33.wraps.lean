theorem dL_create_0 : decode cL_create 0 = .ok (.aload 4, 2) := by decide +kernel
theorem dL_create_2 : decode cL_create 2 = .ok (.iconst 0, 1) := by decide +kernel
theorem dL_create_3 : decode cL_create 3 = .ok (.aload_n 0, 1) := by decide +kernel
theorem dL_create_4 : decode cL_create 4 = .ok (.iload_n 1, 1) := by decide +kernel
theorem dL_create_5 : decode cL_create 5 = .ok (.iload_n 2, 1) := by decide +kernel
theorem dL_create_6 : decode cL_create 6 = .ok (.iload_n 3, 1) := by decide +kernel
theorem dL_create_7 : decode cL_create 7 = .ok (.invokevirtual 7, 3) := by decide +kernel
theorem dL_create_10 : decode cL_create 10 = .ok (.i2l, 1) := by decide +kernel
theorem dL_create_11 : decode cL_create 11 = .ok (.lastore, 1) := by decide +kernel
theorem dL_create_12 : decode cL_create 12 = .ok (.goto 15, 3) := by decide +kernel
theorem dL_create_15 : decode cL_create 15 = .ok (.astore 5, 2) := by decide +kernel
theorem dL_create_17 : decode cL_create 17 = .ok (.iconst 1, 1) := by decide +kernel
theorem dL_create_18 : decode cL_create 18 = .ok (.ireturn, 1) := by decide +kernel
theorem dL_create_19 : decode cL_create 19 = .ok (.astore 5, 2) := by decide +kernel
theorem dL_create_21 : decode cL_create 21 = .ok (.iconst 2, 1) := by decide +kernel
theorem dL_create_22 : decode cL_create 22 = .ok (.ireturn, 1) := by decide +kernel
theorem dL_create_23 : decode cL_create 23 = .ok (.astore 5, 2) := by decide +kernel
theorem dL_create_25 : decode cL_create 25 = .ok (.iconst 3, 1) := by decide +kernel
theorem dL_create_26 : decode cL_create 26 = .ok (.ireturn, 1) := by decide +kernel
theorem dL_create_27 : decode cL_create 27 = .ok (.iconst 0, 1) := by decide +kernel
theorem dL_create_28 : decode cL_create 28 = .ok (.ireturn, 1) := by decide +kernel
abbrev rmL_create : Room := { frames := 8, cells := 2, slots := 12, locals := 150 }
noncomputable def fL_create (n : Nat) (Sh : Sp) (M : Mm) (a0 : Nat) (a1 : Int32) (a2 : Int32) (a3 : Int32) (a4 : Nat) : Option (Int32 × Mm) :=
  chk (Sh a0 = some (.inl 6)) <|
  wb (fX6_create n Sh M a0 a1 a2 a3) [("java/lang/IndexOutOfBoundsException", 1), ("java/lang/IllegalArgumentException", 2), ("java/lang/IllegalStateException", 3)] fun v M1 =>
  sL Sh M1 a4 0 (Int32.toInt64 v) fun M2 => some (0, M2)
set_option maxRecDepth 100000 in
set_option maxHeartbeats 4000000 in
theorem kL_create {l : Launch} {G : Gt} {n : Nat} {Sh : Sp} {M : Mm} {a0 : Nat} {a1 : Int32} {a2 : Int32} {a3 : Int32} {a4 : Nat} (hfl : l.stackTraces = false) {r : Int32 × Mm} (h : fL_create n Sh M a0 a1 a2 a3 a4 = some r) : CtW l yL_create cL_create 6 [(0, 12, 15, 13), (0, 12, 19, 15), (0, 12, 23, 17)] rmL_create G Sh M [.ref a0, .int a1, .int a2, .int a3, .ref a4] (some (.int r.1)) r.2 := by
  refine CtW.of (by decide) (Nat.le_of_ble_eq_true rfl) ?_
  intro p e s m args below meth c ls C hK hX hN hP hS hb hlk hr htab hl
  replace hl : lv_has ls 6 [(0, .ref a0), (1, .int a1), (2, .int a2), (3, .int a3), (4, .ref a4)] := hl
  unfold fL_create at h
  obtain ⟨hT, h⟩ := chk_some h
  obtain ⟨z, hz, hE, hV⟩ := wb_some h
  refine lv_aload C.1 C.2.1 dL_create_0 (lv_at hl 4 rfl) ?_
  refine lv_iconst (v := 0) C.1 C.2.1 dL_create_2 (by decide) ?_
  refine lv_aload_n C.1 C.2.1 dL_create_3 rfl (lv_at hl 0 rfl) ?_
  refine lv_iload_n C.1 C.2.1 dL_create_4 rfl (lv_at hl 1 rfl) ?_
  refine lv_iload_n C.1 C.2.1 dL_create_5 rfl (lv_at hl 2 rfl) ?_
  refine lv_iload_n C.1 C.2.1 dL_create_6 rfl (lv_at hl 3 rfl) ?_
  refine r_VX C hK hX hb hP hS hl.1 (kX6_create hT hfl hz) hT cl_6 wd_667 mo_X6_create wd_668 wd_669 ⟨Nat.le_of_ble_eq_true rfl, Nat.le_of_ble_eq_true rfl⟩ ⟨Nat.le_of_ble_eq_true rfl, Nat.le_of_ble_eq_true rfl⟩ rfl (rest := [.int 0, .ref a4]) rfl (Nat.le_of_ble_eq_true rfl) dL_create_7 (fun E ce q H locs ho hP hS hce hcv hcl => ?_) (fun v0 H locs ho hP hS => ?_)
  · have hq : z.1 = .inl E := by
      cases hz1 : z.1 with
      | inl E9 => rw [hz1] at ho; exact congrArg Sum.inl (Sum.inl.inj ho)
      | inr u => rw [hz1] at ho; cases ho
    replace h := hE E hq
    rw [wx] at h
    by_cases q0 : "java/lang/IndexOutOfBoundsException" = E
    · subst q0
      rw [if_pos rfl] at h
      have e := Option.some.inj h
      refine vx_catch (own := RL) (name := "java/lang/IndexOutOfBoundsException") (E := "java/lang/IndexOutOfBoundsException") C.2.2.2.1 [] ⟨0, 12, 15, 13⟩ [⟨0, 12, 19, 15⟩, ⟨0, 12, 23, 17⟩] (by rw [htab]; rfl) (fun _ h => absurd h List.not_mem_nil) (by decide) (by decide) (C.2.2.2.2 _ wd_664) (hX.nw wd_678) hce hcv hcl ?_
      refine lv_astore (lv' := [(5, .ref q), (0, .ref a0), (1, .int a1), (2, .int a2), (3, .int a3), (4, .ref a4)]) C.1 C.2.1 dL_create_15 hl (by decide) rfl (fun ls hl => ?_)
      refine lv_iconst (v := 1) C.1 C.2.1 dL_create_17 (by decide) ?_
      exact w_ret C hlk hP hS hr e dL_create_18
    rw [if_neg q0] at h
    rw [wx] at h
    by_cases q1 : "java/lang/IllegalArgumentException" = E
    · subst q1
      rw [if_pos rfl] at h
      have e := Option.some.inj h
      refine vx_catch (own := RL) (name := "java/lang/IllegalArgumentException") (E := "java/lang/IllegalArgumentException") C.2.2.2.1 [⟨0, 12, 15, 13⟩] ⟨0, 12, 19, 15⟩ [⟨0, 12, 23, 17⟩] (by rw [htab]; rfl) (List.forall_mem_cons.mpr ⟨Or.inr ⟨by decide, "java/lang/IndexOutOfBoundsException", C.2.2.2.2 _ wd_664, hN _ (List.mem_of_getElem? (i := 0) rfl)⟩, (fun _ h => absurd h List.not_mem_nil)⟩) (by decide) (by decide) (C.2.2.2.2 _ wd_665) (hX.nw wd_747) hce hcv hcl ?_
      refine lv_astore (lv' := [(5, .ref q), (0, .ref a0), (1, .int a1), (2, .int a2), (3, .int a3), (4, .ref a4)]) C.1 C.2.1 dL_create_19 hl (by decide) rfl (fun ls hl => ?_)
      refine lv_iconst (v := 2) C.1 C.2.1 dL_create_21 (by decide) ?_
      exact w_ret C hlk hP hS hr e dL_create_22
    rw [if_neg q1] at h
    rw [wx] at h
    by_cases q2 : "java/lang/IllegalStateException" = E
    · subst q2
      rw [if_pos rfl] at h
      have e := Option.some.inj h
      refine vx_catch (own := RL) (name := "java/lang/IllegalStateException") (E := "java/lang/IllegalStateException") C.2.2.2.1 [⟨0, 12, 15, 13⟩, ⟨0, 12, 19, 15⟩] ⟨0, 12, 23, 17⟩ [] (by rw [htab]; rfl) (List.forall_mem_cons.mpr ⟨Or.inr ⟨by decide, "java/lang/IndexOutOfBoundsException", C.2.2.2.2 _ wd_664, hN _ (List.mem_of_getElem? (i := 1) rfl)⟩, (List.forall_mem_cons.mpr ⟨Or.inr ⟨by decide, "java/lang/IllegalArgumentException", C.2.2.2.2 _ wd_665, hN _ (List.mem_of_getElem? (i := 3) rfl)⟩, (fun _ h => absurd h List.not_mem_nil)⟩)⟩) (by decide) (by decide) (C.2.2.2.2 _ wd_666) (hX.nw wd_767) hce hcv hcl ?_
      refine lv_astore (lv' := [(5, .ref q), (0, .ref a0), (1, .int a1), (2, .int a2), (3, .int a3), (4, .ref a4)]) C.1 C.2.1 dL_create_23 hl (by decide) rfl (fun ls hl => ?_)
      refine lv_iconst (v := 3) C.1 C.2.1 dL_create_25 (by decide) ?_
      exact w_ret C hlk hP hS hr e dL_create_26
    rw [if_neg q2] at h
    cases h
  · cases hz1 : z.1 with
    | inl E9 => rw [hz1] at ho; cases ho
    | inr u =>
      rw [hz1] at ho
      have ev : v0 = some (.int u) := (Sum.inr.inj ho).symm
      subst ev
      replace h := hV u hz1
      show W p l e rmL_create s m args below meth c H locs _ _ (vx_MQ below (QW G Sh r.2 (some (.int r.1))) NX args s rmL_create.cells rmL_create.slots (AA G)) (F0 m (7 + 3) ls (.int u :: [.int 0, .ref a4]))
      refine lv_i2l C.1 C.2.1 dL_create_10 rfl ?_
      refine r_sL C hK hP hS dL_create_11 h (fun M9 H locs h hP hS => ?_)
      refine lv_goto (tgt := 27) C.1 C.2.1 dL_create_12 (by decide) ?_
      refine lv_iconst (v := 0) C.1 C.2.1 dL_create_27 (by decide) ?_
      have e := Option.some.inj h
      exact w_ret C hlk hP hS.1 hr e dL_create_28
theorem dL_remove_0 : decode cL_remove 0 = .ok (.aload_n 2, 1) := by decide +kernel
theorem dL_remove_1 : decode cL_remove 1 = .ok (.iconst 0, 1) := by decide +kernel
theorem dL_remove_2 : decode cL_remove 2 = .ok (.aload_n 0, 1) := by decide +kernel
theorem dL_remove_3 : decode cL_remove 3 = .ok (.iload_n 1, 1) := by decide +kernel
theorem dL_remove_4 : decode cL_remove 4 = .ok (.invokevirtual 19, 3) := by decide +kernel
theorem dL_remove_7 : decode cL_remove 7 = .ok (.i2l, 1) := by decide +kernel
theorem dL_remove_8 : decode cL_remove 8 = .ok (.lastore, 1) := by decide +kernel
theorem dL_remove_9 : decode cL_remove 9 = .ok (.goto 9, 3) := by decide +kernel
theorem dL_remove_12 : decode cL_remove 12 = .ok (.astore_n 3, 1) := by decide +kernel
theorem dL_remove_13 : decode cL_remove 13 = .ok (.iconst 1, 1) := by decide +kernel
theorem dL_remove_14 : decode cL_remove 14 = .ok (.ireturn, 1) := by decide +kernel
theorem dL_remove_15 : decode cL_remove 15 = .ok (.astore_n 3, 1) := by decide +kernel
theorem dL_remove_16 : decode cL_remove 16 = .ok (.iconst 2, 1) := by decide +kernel
theorem dL_remove_17 : decode cL_remove 17 = .ok (.ireturn, 1) := by decide +kernel
theorem dL_remove_18 : decode cL_remove 18 = .ok (.iconst 0, 1) := by decide +kernel
theorem dL_remove_19 : decode cL_remove 19 = .ok (.ireturn, 1) := by decide +kernel
abbrev rmL_remove : Room := { frames := 8, cells := 2, slots := 12, locals := 174 }
noncomputable def fL_remove (n : Nat) (Sh : Sp) (M : Mm) (a0 : Nat) (a1 : Int32) (a2 : Nat) : Option (Int32 × Mm) :=
  chk (Sh a0 = some (.inl 6)) <|
  wb (fX6_remove n Sh M a0 a1) [("java/lang/IndexOutOfBoundsException", 1), ("java/lang/IllegalStateException", 2)] fun v M1 =>
  sL Sh M1 a2 0 (Int32.toInt64 v) fun M2 => some (0, M2)
set_option maxRecDepth 100000 in
set_option maxHeartbeats 4000000 in
theorem kL_remove {l : Launch} {G : Gt} {n : Nat} {Sh : Sp} {M : Mm} {a0 : Nat} {a1 : Int32} {a2 : Nat} (hfl : l.stackTraces = false) {r : Int32 × Mm} (h : fL_remove n Sh M a0 a1 a2 = some r) : CtW l yL_remove cL_remove 4 [(0, 9, 12, 13), (0, 9, 15, 17)] rmL_remove G Sh M [.ref a0, .int a1, .ref a2] (some (.int r.1)) r.2 := by
  refine CtW.of (by decide) (Nat.le_of_ble_eq_true rfl) ?_
  intro p e s m args below meth c ls C hK hX hN hP hS hb hlk hr htab hl
  replace hl : lv_has ls 4 [(0, .ref a0), (1, .int a1), (2, .ref a2)] := hl
  unfold fL_remove at h
  obtain ⟨hT, h⟩ := chk_some h
  obtain ⟨z, hz, hE, hV⟩ := wb_some h
  refine lv_aload_n C.1 C.2.1 dL_remove_0 rfl (lv_at hl 2 rfl) ?_
  refine lv_iconst (v := 0) C.1 C.2.1 dL_remove_1 (by decide) ?_
  refine lv_aload_n C.1 C.2.1 dL_remove_2 rfl (lv_at hl 0 rfl) ?_
  refine lv_iload_n C.1 C.2.1 dL_remove_3 rfl (lv_at hl 1 rfl) ?_
  refine r_VX C hK hX hb hP hS hl.1 (kX6_remove hT hfl hz) hT cl_6 wd_789 mo_X6_remove wd_790 wd_791 ⟨Nat.le_of_ble_eq_true rfl, Nat.le_of_ble_eq_true rfl⟩ ⟨Nat.le_of_ble_eq_true rfl, Nat.le_of_ble_eq_true rfl⟩ rfl (rest := [.int 0, .ref a2]) rfl (Nat.le_of_ble_eq_true rfl) dL_remove_4 (fun E ce q H locs ho hP hS hce hcv hcl => ?_) (fun v0 H locs ho hP hS => ?_)
  · have hq : z.1 = .inl E := by
      cases hz1 : z.1 with
      | inl E9 => rw [hz1] at ho; exact congrArg Sum.inl (Sum.inl.inj ho)
      | inr u => rw [hz1] at ho; cases ho
    replace h := hE E hq
    rw [wx] at h
    by_cases q0 : "java/lang/IndexOutOfBoundsException" = E
    · subst q0
      rw [if_pos rfl] at h
      have e := Option.some.inj h
      refine vx_catch (own := RL) (name := "java/lang/IndexOutOfBoundsException") (E := "java/lang/IndexOutOfBoundsException") C.2.2.2.1 [] ⟨0, 9, 12, 13⟩ [⟨0, 9, 15, 17⟩] (by rw [htab]; rfl) (fun _ h => absurd h List.not_mem_nil) (by decide) (by decide) (C.2.2.2.2 _ wd_664) (hX.nw wd_678) hce hcv hcl ?_
      refine lv_astore_n (lv' := [(3, .ref q), (0, .ref a0), (1, .int a1), (2, .ref a2)]) C.1 C.2.1 dL_remove_12 rfl hl (by decide) rfl (fun ls hl => ?_)
      refine lv_iconst (v := 1) C.1 C.2.1 dL_remove_13 (by decide) ?_
      exact w_ret C hlk hP hS hr e dL_remove_14
    rw [if_neg q0] at h
    rw [wx] at h
    by_cases q1 : "java/lang/IllegalStateException" = E
    · subst q1
      rw [if_pos rfl] at h
      have e := Option.some.inj h
      refine vx_catch (own := RL) (name := "java/lang/IllegalStateException") (E := "java/lang/IllegalStateException") C.2.2.2.1 [⟨0, 9, 12, 13⟩] ⟨0, 9, 15, 17⟩ [] (by rw [htab]; rfl) (List.forall_mem_cons.mpr ⟨Or.inr ⟨by decide, "java/lang/IndexOutOfBoundsException", C.2.2.2.2 _ wd_664, hN _ (List.mem_of_getElem? (i := 1) rfl)⟩, (fun _ h => absurd h List.not_mem_nil)⟩) (by decide) (by decide) (C.2.2.2.2 _ wd_666) (hX.nw wd_767) hce hcv hcl ?_
      refine lv_astore_n (lv' := [(3, .ref q), (0, .ref a0), (1, .int a1), (2, .ref a2)]) C.1 C.2.1 dL_remove_15 rfl hl (by decide) rfl (fun ls hl => ?_)
      refine lv_iconst (v := 2) C.1 C.2.1 dL_remove_16 (by decide) ?_
      exact w_ret C hlk hP hS hr e dL_remove_17
    rw [if_neg q1] at h
    cases h
  · cases hz1 : z.1 with
    | inl E9 => rw [hz1] at ho; cases ho
    | inr u =>
      rw [hz1] at ho
      have ev : v0 = some (.int u) := (Sum.inr.inj ho).symm
      subst ev
      replace h := hV u hz1
      show W p l e rmL_remove s m args below meth c H locs _ _ (vx_MQ below (QW G Sh r.2 (some (.int r.1))) NX args s rmL_remove.cells rmL_remove.slots (AA G)) (F0 m (4 + 3) ls (.int u :: [.int 0, .ref a2]))
      refine lv_i2l C.1 C.2.1 dL_remove_7 rfl ?_
      refine r_sL C hK hP hS dL_remove_8 h (fun M9 H locs h hP hS => ?_)
      refine lv_goto (tgt := 18) C.1 C.2.1 dL_remove_9 (by decide) ?_
      refine lv_iconst (v := 0) C.1 C.2.1 dL_remove_18 (by decide) ?_
      have e := Option.some.inj h
      exact w_ret C hlk hP hS.1 hr e dL_remove_19
theorem dL_move_0 : decode cL_move 0 = .ok (.aload 4, 2) := by decide +kernel
theorem dL_move_2 : decode cL_move 2 = .ok (.iconst 0, 1) := by decide +kernel
theorem dL_move_3 : decode cL_move 3 = .ok (.aload_n 0, 1) := by decide +kernel
theorem dL_move_4 : decode cL_move 4 = .ok (.iload_n 1, 1) := by decide +kernel
theorem dL_move_5 : decode cL_move 5 = .ok (.iload_n 2, 1) := by decide +kernel
theorem dL_move_6 : decode cL_move 6 = .ok (.iload_n 3, 1) := by decide +kernel
theorem dL_move_7 : decode cL_move 7 = .ok (.invokevirtual 23, 3) := by decide +kernel
theorem dL_move_10 : decode cL_move 10 = .ok (.i2l, 1) := by decide +kernel
theorem dL_move_11 : decode cL_move 11 = .ok (.lastore, 1) := by decide +kernel
theorem dL_move_12 : decode cL_move 12 = .ok (.goto 15, 3) := by decide +kernel
theorem dL_move_15 : decode cL_move 15 = .ok (.astore 5, 2) := by decide +kernel
theorem dL_move_17 : decode cL_move 17 = .ok (.iconst 1, 1) := by decide +kernel
theorem dL_move_18 : decode cL_move 18 = .ok (.ireturn, 1) := by decide +kernel
theorem dL_move_19 : decode cL_move 19 = .ok (.astore 5, 2) := by decide +kernel
theorem dL_move_21 : decode cL_move 21 = .ok (.iconst 2, 1) := by decide +kernel
theorem dL_move_22 : decode cL_move 22 = .ok (.ireturn, 1) := by decide +kernel
theorem dL_move_23 : decode cL_move 23 = .ok (.astore 5, 2) := by decide +kernel
theorem dL_move_25 : decode cL_move 25 = .ok (.iconst 3, 1) := by decide +kernel
theorem dL_move_26 : decode cL_move 26 = .ok (.ireturn, 1) := by decide +kernel
theorem dL_move_27 : decode cL_move 27 = .ok (.iconst 0, 1) := by decide +kernel
theorem dL_move_28 : decode cL_move 28 = .ok (.ireturn, 1) := by decide +kernel
abbrev rmL_move : Room := { frames := 8, cells := 3, slots := 18, locals := 152 }
noncomputable def fL_move (n : Nat) (Sh : Sp) (M : Mm) (a0 : Nat) (a1 : Int32) (a2 : Int32) (a3 : Int32) (a4 : Nat) : Option (Int32 × Mm) :=
  chk (Sh a0 = some (.inl 6)) <|
  wb (fX6_move n Sh M a0 a1 a2 a3) [("java/lang/IndexOutOfBoundsException", 1), ("java/lang/IllegalStateException", 2), ("java/lang/IllegalArgumentException", 3)] fun v M1 =>
  sL Sh M1 a4 0 (Int32.toInt64 v) fun M2 => some (0, M2)
set_option maxRecDepth 100000 in
set_option maxHeartbeats 4000000 in
theorem kL_move {l : Launch} {G : Gt} {n : Nat} {Sh : Sp} {M : Mm} {a0 : Nat} {a1 : Int32} {a2 : Int32} {a3 : Int32} {a4 : Nat} (hfl : l.stackTraces = false) {r : Int32 × Mm} (h : fL_move n Sh M a0 a1 a2 a3 a4 = some r) : CtW l yL_move cL_move 6 [(0, 12, 15, 13), (0, 12, 19, 17), (0, 12, 23, 15)] rmL_move G Sh M [.ref a0, .int a1, .int a2, .int a3, .ref a4] (some (.int r.1)) r.2 := by
  refine CtW.of (by decide) (Nat.le_of_ble_eq_true rfl) ?_
  intro p e s m args below meth c ls C hK hX hN hP hS hb hlk hr htab hl
  replace hl : lv_has ls 6 [(0, .ref a0), (1, .int a1), (2, .int a2), (3, .int a3), (4, .ref a4)] := hl
  unfold fL_move at h
  obtain ⟨hT, h⟩ := chk_some h
  obtain ⟨z, hz, hE, hV⟩ := wb_some h
  refine lv_aload C.1 C.2.1 dL_move_0 (lv_at hl 4 rfl) ?_
  refine lv_iconst (v := 0) C.1 C.2.1 dL_move_2 (by decide) ?_
  refine lv_aload_n C.1 C.2.1 dL_move_3 rfl (lv_at hl 0 rfl) ?_
  refine lv_iload_n C.1 C.2.1 dL_move_4 rfl (lv_at hl 1 rfl) ?_
  refine lv_iload_n C.1 C.2.1 dL_move_5 rfl (lv_at hl 2 rfl) ?_
  refine lv_iload_n C.1 C.2.1 dL_move_6 rfl (lv_at hl 3 rfl) ?_
  refine r_VX C hK hX hb hP hS hl.1 (kX6_move hT hfl hz) hT cl_6 wd_824 mo_X6_move wd_825 wd_826 ⟨Nat.le_of_ble_eq_true rfl, Nat.le_of_ble_eq_true rfl⟩ ⟨Nat.le_of_ble_eq_true rfl, Nat.le_of_ble_eq_true rfl⟩ rfl (rest := [.int 0, .ref a4]) rfl (Nat.le_of_ble_eq_true rfl) dL_move_7 (fun E ce q H locs ho hP hS hce hcv hcl => ?_) (fun v0 H locs ho hP hS => ?_)
  · have hq : z.1 = .inl E := by
      cases hz1 : z.1 with
      | inl E9 => rw [hz1] at ho; exact congrArg Sum.inl (Sum.inl.inj ho)
      | inr u => rw [hz1] at ho; cases ho
    replace h := hE E hq
    rw [wx] at h
    by_cases q0 : "java/lang/IndexOutOfBoundsException" = E
    · subst q0
      rw [if_pos rfl] at h
      have e := Option.some.inj h
      refine vx_catch (own := RL) (name := "java/lang/IndexOutOfBoundsException") (E := "java/lang/IndexOutOfBoundsException") C.2.2.2.1 [] ⟨0, 12, 15, 13⟩ [⟨0, 12, 19, 17⟩, ⟨0, 12, 23, 15⟩] (by rw [htab]; rfl) (fun _ h => absurd h List.not_mem_nil) (by decide) (by decide) (C.2.2.2.2 _ wd_664) (hX.nw wd_678) hce hcv hcl ?_
      refine lv_astore (lv' := [(5, .ref q), (0, .ref a0), (1, .int a1), (2, .int a2), (3, .int a3), (4, .ref a4)]) C.1 C.2.1 dL_move_15 hl (by decide) rfl (fun ls hl => ?_)
      refine lv_iconst (v := 1) C.1 C.2.1 dL_move_17 (by decide) ?_
      exact w_ret C hlk hP hS hr e dL_move_18
    rw [if_neg q0] at h
    rw [wx] at h
    by_cases q1 : "java/lang/IllegalStateException" = E
    · subst q1
      rw [if_pos rfl] at h
      have e := Option.some.inj h
      refine vx_catch (own := RL) (name := "java/lang/IllegalStateException") (E := "java/lang/IllegalStateException") C.2.2.2.1 [⟨0, 12, 15, 13⟩] ⟨0, 12, 19, 17⟩ [⟨0, 12, 23, 15⟩] (by rw [htab]; rfl) (List.forall_mem_cons.mpr ⟨Or.inr ⟨by decide, "java/lang/IndexOutOfBoundsException", C.2.2.2.2 _ wd_664, hN _ (List.mem_of_getElem? (i := 1) rfl)⟩, (fun _ h => absurd h List.not_mem_nil)⟩) (by decide) (by decide) (C.2.2.2.2 _ wd_666) (hX.nw wd_767) hce hcv hcl ?_
      refine lv_astore (lv' := [(5, .ref q), (0, .ref a0), (1, .int a1), (2, .int a2), (3, .int a3), (4, .ref a4)]) C.1 C.2.1 dL_move_19 hl (by decide) rfl (fun ls hl => ?_)
      refine lv_iconst (v := 2) C.1 C.2.1 dL_move_21 (by decide) ?_
      exact w_ret C hlk hP hS hr e dL_move_22
    rw [if_neg q1] at h
    rw [wx] at h
    by_cases q2 : "java/lang/IllegalArgumentException" = E
    · subst q2
      rw [if_pos rfl] at h
      have e := Option.some.inj h
      refine vx_catch (own := RL) (name := "java/lang/IllegalArgumentException") (E := "java/lang/IllegalArgumentException") C.2.2.2.1 [⟨0, 12, 15, 13⟩, ⟨0, 12, 19, 17⟩] ⟨0, 12, 23, 15⟩ [] (by rw [htab]; rfl) (List.forall_mem_cons.mpr ⟨Or.inr ⟨by decide, "java/lang/IndexOutOfBoundsException", C.2.2.2.2 _ wd_664, hN _ (List.mem_of_getElem? (i := 0) rfl)⟩, (List.forall_mem_cons.mpr ⟨Or.inr ⟨by decide, "java/lang/IllegalStateException", C.2.2.2.2 _ wd_666, hN _ (List.mem_of_getElem? (i := 5) rfl)⟩, (fun _ h => absurd h List.not_mem_nil)⟩)⟩) (by decide) (by decide) (C.2.2.2.2 _ wd_665) (hX.nw wd_747) hce hcv hcl ?_
      refine lv_astore (lv' := [(5, .ref q), (0, .ref a0), (1, .int a1), (2, .int a2), (3, .int a3), (4, .ref a4)]) C.1 C.2.1 dL_move_23 hl (by decide) rfl (fun ls hl => ?_)
      refine lv_iconst (v := 3) C.1 C.2.1 dL_move_25 (by decide) ?_
      exact w_ret C hlk hP hS hr e dL_move_26
    rw [if_neg q2] at h
    cases h
  · cases hz1 : z.1 with
    | inl E9 => rw [hz1] at ho; cases ho
    | inr u =>
      rw [hz1] at ho
      have ev : v0 = some (.int u) := (Sum.inr.inj ho).symm
      subst ev
      replace h := hV u hz1
      show W p l e rmL_move s m args below meth c H locs _ _ (vx_MQ below (QW G Sh r.2 (some (.int r.1))) NX args s rmL_move.cells rmL_move.slots (AA G)) (F0 m (7 + 3) ls (.int u :: [.int 0, .ref a4]))
      refine lv_i2l C.1 C.2.1 dL_move_10 rfl ?_
      refine r_sL C hK hP hS dL_move_11 h (fun M9 H locs h hP hS => ?_)
      refine lv_goto (tgt := 27) C.1 C.2.1 dL_move_12 (by decide) ?_
      refine lv_iconst (v := 0) C.1 C.2.1 dL_move_27 (by decide) ?_
      have e := Option.some.inj h
      exact w_ret C hlk hP hS.1 hr e dL_move_28
theorem dL_info_0 : decode cL_info 0 = .ok (.aload_n 3, 1) := by decide +kernel
theorem dL_info_1 : decode cL_info 1 = .ok (.iconst 0, 1) := by decide +kernel
theorem dL_info_2 : decode cL_info 2 = .ok (.aload_n 0, 1) := by decide +kernel
theorem dL_info_3 : decode cL_info 3 = .ok (.iload_n 1, 1) := by decide +kernel
theorem dL_info_4 : decode cL_info 4 = .ok (.iload_n 2, 1) := by decide +kernel
theorem dL_info_5 : decode cL_info 5 = .ok (.invokevirtual 26, 3) := by decide +kernel
theorem dL_info_8 : decode cL_info 8 = .ok (.i2l, 1) := by decide +kernel
theorem dL_info_9 : decode cL_info 9 = .ok (.lastore, 1) := by decide +kernel
theorem dL_info_10 : decode cL_info 10 = .ok (.goto 11, 3) := by decide +kernel
theorem dL_info_13 : decode cL_info 13 = .ok (.astore 4, 2) := by decide +kernel
theorem dL_info_15 : decode cL_info 15 = .ok (.iconst 1, 1) := by decide +kernel
theorem dL_info_16 : decode cL_info 16 = .ok (.ireturn, 1) := by decide +kernel
theorem dL_info_17 : decode cL_info 17 = .ok (.astore 4, 2) := by decide +kernel
theorem dL_info_19 : decode cL_info 19 = .ok (.iconst 2, 1) := by decide +kernel
theorem dL_info_20 : decode cL_info 20 = .ok (.ireturn, 1) := by decide +kernel
theorem dL_info_21 : decode cL_info 21 = .ok (.iconst 0, 1) := by decide +kernel
theorem dL_info_22 : decode cL_info 22 = .ok (.ireturn, 1) := by decide +kernel
abbrev rmL_info : Room := { frames := 8, cells := 2, slots := 12, locals := 150 }
noncomputable def fL_info (n : Nat) (Sh : Sp) (M : Mm) (a0 : Nat) (a1 : Int32) (a2 : Int32) (a3 : Nat) : Option (Int32 × Mm) :=
  chk (Sh a0 = some (.inl 6)) <|
  wb ((fX6_info n Sh M a0 a1 a2).map fun z => (z, M)) [("java/lang/IndexOutOfBoundsException", 1), ("java/lang/IllegalArgumentException", 2)] fun v M1 =>
  sL Sh M1 a3 0 (Int32.toInt64 v) fun M2 => some (0, M2)
set_option maxRecDepth 100000 in
set_option maxHeartbeats 4000000 in
theorem kL_info {l : Launch} {G : Gt} {n : Nat} {Sh : Sp} {M : Mm} {a0 : Nat} {a1 : Int32} {a2 : Int32} {a3 : Nat} (hfl : l.stackTraces = false) {r : Int32 × Mm} (h : fL_info n Sh M a0 a1 a2 a3 = some r) : CtW l yL_info cL_info 5 [(0, 10, 13, 13), (0, 10, 17, 15)] rmL_info G Sh M [.ref a0, .int a1, .int a2, .ref a3] (some (.int r.1)) r.2 := by
  refine CtW.of (by decide) (Nat.le_of_ble_eq_true rfl) ?_
  intro p e s m args below meth c ls C hK hX hN hP hS hb hlk hr htab hl
  replace hl : lv_has ls 5 [(0, .ref a0), (1, .int a1), (2, .int a2), (3, .ref a3)] := hl
  unfold fL_info at h
  obtain ⟨hT, h⟩ := chk_some h
  obtain ⟨z, hz, hE, hV⟩ := wb_some h
  refine lv_aload_n C.1 C.2.1 dL_info_0 rfl (lv_at hl 3 rfl) ?_
  refine lv_iconst (v := 0) C.1 C.2.1 dL_info_1 (by decide) ?_
  refine lv_aload_n C.1 C.2.1 dL_info_2 rfl (lv_at hl 0 rfl) ?_
  refine lv_iload_n C.1 C.2.1 dL_info_3 rfl (lv_at hl 1 rfl) ?_
  refine lv_iload_n C.1 C.2.1 dL_info_4 rfl (lv_at hl 2 rfl) ?_
  obtain ⟨y0, hy0, rfl⟩ := mS2 hz
  refine r_VX C hK hX hb hP hS hl.1 (kX6_info hT hfl hy0) hT cl_6 wd_835 mo_X6_info wd_836 wd_837 ⟨Nat.le_of_ble_eq_true rfl, Nat.le_of_ble_eq_true rfl⟩ ⟨Nat.le_of_ble_eq_true rfl, Nat.le_of_ble_eq_true rfl⟩ rfl (rest := [.int 0, .ref a3]) rfl (Nat.le_of_ble_eq_true rfl) dL_info_5 (fun E ce q H locs ho hP hS hce hcv hcl => ?_) (fun v0 H locs ho hP hS => ?_)
  · have hq : y0 = .inl E := by
      cases hz1 : y0 with
      | inl E9 => rw [hz1] at ho; exact congrArg Sum.inl (Sum.inl.inj ho)
      | inr u => rw [hz1] at ho; cases ho
    replace h := hE E hq
    rw [wx] at h
    by_cases q0 : "java/lang/IndexOutOfBoundsException" = E
    · subst q0
      rw [if_pos rfl] at h
      have e := Option.some.inj h
      refine vx_catch (own := RL) (name := "java/lang/IndexOutOfBoundsException") (E := "java/lang/IndexOutOfBoundsException") C.2.2.2.1 [] ⟨0, 10, 13, 13⟩ [⟨0, 10, 17, 15⟩] (by rw [htab]; rfl) (fun _ h => absurd h List.not_mem_nil) (by decide) (by decide) (C.2.2.2.2 _ wd_664) (hX.nw wd_678) hce hcv hcl ?_
      refine lv_astore (lv' := [(4, .ref q), (0, .ref a0), (1, .int a1), (2, .int a2), (3, .ref a3)]) C.1 C.2.1 dL_info_13 hl (by decide) rfl (fun ls hl => ?_)
      refine lv_iconst (v := 1) C.1 C.2.1 dL_info_15 (by decide) ?_
      exact w_ret C hlk hP hS hr e dL_info_16
    rw [if_neg q0] at h
    rw [wx] at h
    by_cases q1 : "java/lang/IllegalArgumentException" = E
    · subst q1
      rw [if_pos rfl] at h
      have e := Option.some.inj h
      refine vx_catch (own := RL) (name := "java/lang/IllegalArgumentException") (E := "java/lang/IllegalArgumentException") C.2.2.2.1 [⟨0, 10, 13, 13⟩] ⟨0, 10, 17, 15⟩ [] (by rw [htab]; rfl) (List.forall_mem_cons.mpr ⟨Or.inr ⟨by decide, "java/lang/IndexOutOfBoundsException", C.2.2.2.2 _ wd_664, hN _ (List.mem_of_getElem? (i := 0) rfl)⟩, (fun _ h => absurd h List.not_mem_nil)⟩) (by decide) (by decide) (C.2.2.2.2 _ wd_665) (hX.nw wd_747) hce hcv hcl ?_
      refine lv_astore (lv' := [(4, .ref q), (0, .ref a0), (1, .int a1), (2, .int a2), (3, .ref a3)]) C.1 C.2.1 dL_info_17 hl (by decide) rfl (fun ls hl => ?_)
      refine lv_iconst (v := 2) C.1 C.2.1 dL_info_19 (by decide) ?_
      exact w_ret C hlk hP hS hr e dL_info_20
    rw [if_neg q1] at h
    cases h
  · cases hz1 : y0 with
    | inl E9 => rw [hz1] at ho; cases ho
    | inr u =>
      rw [hz1] at ho
      have ev : v0 = some (.int u) := (Sum.inr.inj ho).symm
      subst ev
      replace h := hV u hz1
      show W p l e rmL_info s m args below meth c H locs _ _ (vx_MQ below (QW G Sh r.2 (some (.int r.1))) NX args s rmL_info.cells rmL_info.slots (AA G)) (F0 m (5 + 3) ls (.int u :: [.int 0, .ref a3]))
      refine lv_i2l C.1 C.2.1 dL_info_8 rfl ?_
      refine r_sL C hK hP hS dL_info_9 h (fun M9 H locs h hP hS => ?_)
      refine lv_goto (tgt := 21) C.1 C.2.1 dL_info_10 (by decide) ?_
      refine lv_iconst (v := 0) C.1 C.2.1 dL_info_21 (by decide) ?_
      have e := Option.some.inj h
      exact w_ret C hlk hP hS.1 hr e dL_info_22
theorem dL_child_0 : decode cL_child 0 = .ok (.aload_n 3, 1) := by decide +kernel
theorem dL_child_1 : decode cL_child 1 = .ok (.iconst 0, 1) := by decide +kernel
theorem dL_child_2 : decode cL_child 2 = .ok (.aload_n 0, 1) := by decide +kernel
theorem dL_child_3 : decode cL_child 3 = .ok (.iload_n 1, 1) := by decide +kernel
theorem dL_child_4 : decode cL_child 4 = .ok (.iload_n 2, 1) := by decide +kernel
theorem dL_child_5 : decode cL_child 5 = .ok (.invokevirtual 30, 3) := by decide +kernel
theorem dL_child_8 : decode cL_child 8 = .ok (.i2l, 1) := by decide +kernel
theorem dL_child_9 : decode cL_child 9 = .ok (.lastore, 1) := by decide +kernel
theorem dL_child_10 : decode cL_child 10 = .ok (.goto 7, 3) := by decide +kernel
theorem dL_child_13 : decode cL_child 13 = .ok (.astore 4, 2) := by decide +kernel
theorem dL_child_15 : decode cL_child 15 = .ok (.iconst 1, 1) := by decide +kernel
theorem dL_child_16 : decode cL_child 16 = .ok (.ireturn, 1) := by decide +kernel
theorem dL_child_17 : decode cL_child 17 = .ok (.iconst 0, 1) := by decide +kernel
theorem dL_child_18 : decode cL_child 18 = .ok (.ireturn, 1) := by decide +kernel
abbrev rmL_child : Room := { frames := 8, cells := 1, slots := 6, locals := 143 }
noncomputable def fL_child (n : Nat) (Sh : Sp) (M : Mm) (a0 : Nat) (a1 : Int32) (a2 : Int32) (a3 : Nat) : Option (Int32 × Mm) :=
  chk (Sh a0 = some (.inl 6)) <|
  wb ((fX6_child n Sh M a0 a1 a2).map fun z => (z, M)) [("java/lang/IndexOutOfBoundsException", 1)] fun v M1 =>
  sL Sh M1 a3 0 (Int32.toInt64 v) fun M2 => some (0, M2)
set_option maxRecDepth 100000 in
set_option maxHeartbeats 4000000 in
theorem kL_child {l : Launch} {G : Gt} {n : Nat} {Sh : Sp} {M : Mm} {a0 : Nat} {a1 : Int32} {a2 : Int32} {a3 : Nat} (hfl : l.stackTraces = false) {r : Int32 × Mm} (h : fL_child n Sh M a0 a1 a2 a3 = some r) : CtW l yL_child cL_child 5 [(0, 10, 13, 13)] rmL_child G Sh M [.ref a0, .int a1, .int a2, .ref a3] (some (.int r.1)) r.2 := by
  refine CtW.of (by decide) (Nat.le_of_ble_eq_true rfl) ?_
  intro p e s m args below meth c ls C hK hX hN hP hS hb hlk hr htab hl
  replace hl : lv_has ls 5 [(0, .ref a0), (1, .int a1), (2, .int a2), (3, .ref a3)] := hl
  unfold fL_child at h
  obtain ⟨hT, h⟩ := chk_some h
  obtain ⟨z, hz, hE, hV⟩ := wb_some h
  refine lv_aload_n C.1 C.2.1 dL_child_0 rfl (lv_at hl 3 rfl) ?_
  refine lv_iconst (v := 0) C.1 C.2.1 dL_child_1 (by decide) ?_
  refine lv_aload_n C.1 C.2.1 dL_child_2 rfl (lv_at hl 0 rfl) ?_
  refine lv_iload_n C.1 C.2.1 dL_child_3 rfl (lv_at hl 1 rfl) ?_
  refine lv_iload_n C.1 C.2.1 dL_child_4 rfl (lv_at hl 2 rfl) ?_
  obtain ⟨y0, hy0, rfl⟩ := mS2 hz
  refine r_VX C hK hX hb hP hS hl.1 (kX6_child hT hfl hy0) hT cl_6 wd_846 mo_X6_child wd_847 wd_848 ⟨Nat.le_of_ble_eq_true rfl, Nat.le_of_ble_eq_true rfl⟩ ⟨Nat.le_of_ble_eq_true rfl, Nat.le_of_ble_eq_true rfl⟩ rfl (rest := [.int 0, .ref a3]) rfl (Nat.le_of_ble_eq_true rfl) dL_child_5 (fun E ce q H locs ho hP hS hce hcv hcl => ?_) (fun v0 H locs ho hP hS => ?_)
  · have hq : y0 = .inl E := by
      cases hz1 : y0 with
      | inl E9 => rw [hz1] at ho; exact congrArg Sum.inl (Sum.inl.inj ho)
      | inr u => rw [hz1] at ho; cases ho
    replace h := hE E hq
    rw [wx] at h
    by_cases q0 : "java/lang/IndexOutOfBoundsException" = E
    · subst q0
      rw [if_pos rfl] at h
      have e := Option.some.inj h
      refine vx_catch (own := RL) (name := "java/lang/IndexOutOfBoundsException") (E := "java/lang/IndexOutOfBoundsException") C.2.2.2.1 [] ⟨0, 10, 13, 13⟩ [] (by rw [htab]; rfl) (fun _ h => absurd h List.not_mem_nil) (by decide) (by decide) (C.2.2.2.2 _ wd_664) (hX.nw wd_678) hce hcv hcl ?_
      refine lv_astore (lv' := [(4, .ref q), (0, .ref a0), (1, .int a1), (2, .int a2), (3, .ref a3)]) C.1 C.2.1 dL_child_13 hl (by decide) rfl (fun ls hl => ?_)
      refine lv_iconst (v := 1) C.1 C.2.1 dL_child_15 (by decide) ?_
      exact w_ret C hlk hP hS hr e dL_child_16
    rw [if_neg q0] at h
    cases h
  · cases hz1 : y0 with
    | inl E9 => rw [hz1] at ho; cases ho
    | inr u =>
      rw [hz1] at ho
      have ev : v0 = some (.int u) := (Sum.inr.inj ho).symm
      subst ev
      replace h := hV u hz1
      show W p l e rmL_child s m args below meth c H locs _ _ (vx_MQ below (QW G Sh r.2 (some (.int r.1))) NX args s rmL_child.cells rmL_child.slots (AA G)) (F0 m (5 + 3) ls (.int u :: [.int 0, .ref a3]))
      refine lv_i2l C.1 C.2.1 dL_child_8 rfl ?_
      refine r_sL C hK hP hS dL_child_9 h (fun M9 H locs h hP hS => ?_)
      refine lv_goto (tgt := 17) C.1 C.2.1 dL_child_10 (by decide) ?_
      refine lv_iconst (v := 0) C.1 C.2.1 dL_child_17 (by decide) ?_
      have e := Option.some.inj h
      exact w_ret C hlk hP hS.1 hr e dL_child_18
theorem dL_set_0 : decode cL_set 0 = .ok (.aload 4, 2) := by decide +kernel
theorem dL_set_2 : decode cL_set 2 = .ok (.iconst 0, 1) := by decide +kernel
theorem dL_set_3 : decode cL_set 3 = .ok (.aload_n 0, 1) := by decide +kernel
theorem dL_set_4 : decode cL_set 4 = .ok (.iload_n 1, 1) := by decide +kernel
theorem dL_set_5 : decode cL_set 5 = .ok (.iload_n 2, 1) := by decide +kernel
theorem dL_set_6 : decode cL_set 6 = .ok (.iload_n 3, 1) := by decide +kernel
theorem dL_set_7 : decode cL_set 7 = .ok (.invokevirtual 33, 3) := by decide +kernel
theorem dL_set_10 : decode cL_set 10 = .ok (.i2l, 1) := by decide +kernel
theorem dL_set_11 : decode cL_set 11 = .ok (.lastore, 1) := by decide +kernel
theorem dL_set_12 : decode cL_set 12 = .ok (.goto 15, 3) := by decide +kernel
theorem dL_set_15 : decode cL_set 15 = .ok (.astore 5, 2) := by decide +kernel
theorem dL_set_17 : decode cL_set 17 = .ok (.iconst 1, 1) := by decide +kernel
theorem dL_set_18 : decode cL_set 18 = .ok (.ireturn, 1) := by decide +kernel
theorem dL_set_19 : decode cL_set 19 = .ok (.astore 5, 2) := by decide +kernel
theorem dL_set_21 : decode cL_set 21 = .ok (.iconst 2, 1) := by decide +kernel
theorem dL_set_22 : decode cL_set 22 = .ok (.ireturn, 1) := by decide +kernel
theorem dL_set_23 : decode cL_set 23 = .ok (.astore 5, 2) := by decide +kernel
theorem dL_set_25 : decode cL_set 25 = .ok (.iconst 3, 1) := by decide +kernel
theorem dL_set_26 : decode cL_set 26 = .ok (.ireturn, 1) := by decide +kernel
theorem dL_set_27 : decode cL_set 27 = .ok (.iconst 0, 1) := by decide +kernel
theorem dL_set_28 : decode cL_set 28 = .ok (.ireturn, 1) := by decide +kernel
abbrev rmL_set : Room := { frames := 67, cells := 3, slots := 18, locals := 1692 }
noncomputable def fL_set (n : Nat) (Sh : Sp) (M : Mm) (a0 : Nat) (a1 : Int32) (a2 : Int32) (a3 : Int32) (a4 : Nat) : Option (Int32 × Mm) :=
  chk (Sh a0 = some (.inl 6)) <|
  wb (fX6_set n Sh M a0 a1 a2 a3) [("java/lang/IndexOutOfBoundsException", 1), ("java/lang/IllegalArgumentException", 2), ("java/lang/IllegalStateException", 3)] fun v M1 =>
  sL Sh M1 a4 0 (Int32.toInt64 v) fun M2 => some (0, M2)
set_option maxRecDepth 100000 in
set_option maxHeartbeats 4000000 in
theorem kL_set {l : Launch} {G : Gt} {n : Nat} {Sh : Sp} {M : Mm} {a0 : Nat} {a1 : Int32} {a2 : Int32} {a3 : Int32} {a4 : Nat} (hfl : l.stackTraces = false) {r : Int32 × Mm} (h : fL_set n Sh M a0 a1 a2 a3 a4 = some r) : CtW l yL_set cL_set 6 [(0, 12, 15, 13), (0, 12, 19, 15), (0, 12, 23, 17)] rmL_set G Sh M [.ref a0, .int a1, .int a2, .int a3, .ref a4] (some (.int r.1)) r.2 := by
  refine CtW.of (by decide) (Nat.le_of_ble_eq_true rfl) ?_
  intro p e s m args below meth c ls C hK hX hN hP hS hb hlk hr htab hl
  replace hl : lv_has ls 6 [(0, .ref a0), (1, .int a1), (2, .int a2), (3, .int a3), (4, .ref a4)] := hl
  unfold fL_set at h
  obtain ⟨hT, h⟩ := chk_some h
  obtain ⟨z, hz, hE, hV⟩ := wb_some h
  refine lv_aload C.1 C.2.1 dL_set_0 (lv_at hl 4 rfl) ?_
  refine lv_iconst (v := 0) C.1 C.2.1 dL_set_2 (by decide) ?_
  refine lv_aload_n C.1 C.2.1 dL_set_3 rfl (lv_at hl 0 rfl) ?_
  refine lv_iload_n C.1 C.2.1 dL_set_4 rfl (lv_at hl 1 rfl) ?_
  refine lv_iload_n C.1 C.2.1 dL_set_5 rfl (lv_at hl 2 rfl) ?_
  refine lv_iload_n C.1 C.2.1 dL_set_6 rfl (lv_at hl 3 rfl) ?_
  refine r_VX C hK hX hb hP hS hl.1 (kX6_set hT hfl hz) hT cl_6 wd_854 mo_X6_set wd_855 wd_856 ⟨Nat.le_of_ble_eq_true rfl, Nat.le_of_ble_eq_true rfl⟩ ⟨Nat.le_of_ble_eq_true rfl, Nat.le_of_ble_eq_true rfl⟩ rfl (rest := [.int 0, .ref a4]) rfl (Nat.le_of_ble_eq_true rfl) dL_set_7 (fun E ce q H locs ho hP hS hce hcv hcl => ?_) (fun v0 H locs ho hP hS => ?_)
  · have hq : z.1 = .inl E := by
      cases hz1 : z.1 with
      | inl E9 => rw [hz1] at ho; exact congrArg Sum.inl (Sum.inl.inj ho)
      | inr u => rw [hz1] at ho; cases ho
    replace h := hE E hq
    rw [wx] at h
    by_cases q0 : "java/lang/IndexOutOfBoundsException" = E
    · subst q0
      rw [if_pos rfl] at h
      have e := Option.some.inj h
      refine vx_catch (own := RL) (name := "java/lang/IndexOutOfBoundsException") (E := "java/lang/IndexOutOfBoundsException") C.2.2.2.1 [] ⟨0, 12, 15, 13⟩ [⟨0, 12, 19, 15⟩, ⟨0, 12, 23, 17⟩] (by rw [htab]; rfl) (fun _ h => absurd h List.not_mem_nil) (by decide) (by decide) (C.2.2.2.2 _ wd_664) (hX.nw wd_678) hce hcv hcl ?_
      refine lv_astore (lv' := [(5, .ref q), (0, .ref a0), (1, .int a1), (2, .int a2), (3, .int a3), (4, .ref a4)]) C.1 C.2.1 dL_set_15 hl (by decide) rfl (fun ls hl => ?_)
      refine lv_iconst (v := 1) C.1 C.2.1 dL_set_17 (by decide) ?_
      exact w_ret C hlk hP hS hr e dL_set_18
    rw [if_neg q0] at h
    rw [wx] at h
    by_cases q1 : "java/lang/IllegalArgumentException" = E
    · subst q1
      rw [if_pos rfl] at h
      have e := Option.some.inj h
      refine vx_catch (own := RL) (name := "java/lang/IllegalArgumentException") (E := "java/lang/IllegalArgumentException") C.2.2.2.1 [⟨0, 12, 15, 13⟩] ⟨0, 12, 19, 15⟩ [⟨0, 12, 23, 17⟩] (by rw [htab]; rfl) (List.forall_mem_cons.mpr ⟨Or.inr ⟨by decide, "java/lang/IndexOutOfBoundsException", C.2.2.2.2 _ wd_664, hN _ (List.mem_of_getElem? (i := 0) rfl)⟩, (fun _ h => absurd h List.not_mem_nil)⟩) (by decide) (by decide) (C.2.2.2.2 _ wd_665) (hX.nw wd_747) hce hcv hcl ?_
      refine lv_astore (lv' := [(5, .ref q), (0, .ref a0), (1, .int a1), (2, .int a2), (3, .int a3), (4, .ref a4)]) C.1 C.2.1 dL_set_19 hl (by decide) rfl (fun ls hl => ?_)
      refine lv_iconst (v := 2) C.1 C.2.1 dL_set_21 (by decide) ?_
      exact w_ret C hlk hP hS hr e dL_set_22
    rw [if_neg q1] at h
    rw [wx] at h
    by_cases q2 : "java/lang/IllegalStateException" = E
    · subst q2
      rw [if_pos rfl] at h
      have e := Option.some.inj h
      refine vx_catch (own := RL) (name := "java/lang/IllegalStateException") (E := "java/lang/IllegalStateException") C.2.2.2.1 [⟨0, 12, 15, 13⟩, ⟨0, 12, 19, 15⟩] ⟨0, 12, 23, 17⟩ [] (by rw [htab]; rfl) (List.forall_mem_cons.mpr ⟨Or.inr ⟨by decide, "java/lang/IndexOutOfBoundsException", C.2.2.2.2 _ wd_664, hN _ (List.mem_of_getElem? (i := 1) rfl)⟩, (List.forall_mem_cons.mpr ⟨Or.inr ⟨by decide, "java/lang/IllegalArgumentException", C.2.2.2.2 _ wd_665, hN _ (List.mem_of_getElem? (i := 3) rfl)⟩, (fun _ h => absurd h List.not_mem_nil)⟩)⟩) (by decide) (by decide) (C.2.2.2.2 _ wd_666) (hX.nw wd_767) hce hcv hcl ?_
      refine lv_astore (lv' := [(5, .ref q), (0, .ref a0), (1, .int a1), (2, .int a2), (3, .int a3), (4, .ref a4)]) C.1 C.2.1 dL_set_23 hl (by decide) rfl (fun ls hl => ?_)
      refine lv_iconst (v := 3) C.1 C.2.1 dL_set_25 (by decide) ?_
      exact w_ret C hlk hP hS hr e dL_set_26
    rw [if_neg q2] at h
    cases h
  · cases hz1 : z.1 with
    | inl E9 => rw [hz1] at ho; cases ho
    | inr u =>
      rw [hz1] at ho
      have ev : v0 = some (.int u) := (Sum.inr.inj ho).symm
      subst ev
      replace h := hV u hz1
      show W p l e rmL_set s m args below meth c H locs _ _ (vx_MQ below (QW G Sh r.2 (some (.int r.1))) NX args s rmL_set.cells rmL_set.slots (AA G)) (F0 m (7 + 3) ls (.int u :: [.int 0, .ref a4]))
      refine lv_i2l C.1 C.2.1 dL_set_10 rfl ?_
      refine r_sL C hK hP hS dL_set_11 h (fun M9 H locs h hP hS => ?_)
      refine lv_goto (tgt := 27) C.1 C.2.1 dL_set_12 (by decide) ?_
      refine lv_iconst (v := 0) C.1 C.2.1 dL_set_27 (by decide) ?_
      have e := Option.some.inj h
      exact w_ret C hlk hP hS.1 hr e dL_set_28
theorem dL_setText_0 : decode cL_setText 0 = .ok (.aload_n 2, 1) := by decide +kernel
theorem dL_setText_1 : decode cL_setText 1 = .ok (.iconst 0, 1) := by decide +kernel
theorem dL_setText_2 : decode cL_setText 2 = .ok (.aload_n 0, 1) := by decide +kernel
theorem dL_setText_3 : decode cL_setText 3 = .ok (.iload_n 1, 1) := by decide +kernel
theorem dL_setText_4 : decode cL_setText 4 = .ok (.invokevirtual 36, 3) := by decide +kernel
theorem dL_setText_7 : decode cL_setText 7 = .ok (.i2l, 1) := by decide +kernel
theorem dL_setText_8 : decode cL_setText 8 = .ok (.lastore, 1) := by decide +kernel
theorem dL_setText_9 : decode cL_setText 9 = .ok (.goto 9, 3) := by decide +kernel
theorem dL_setText_12 : decode cL_setText 12 = .ok (.astore_n 3, 1) := by decide +kernel
theorem dL_setText_13 : decode cL_setText 13 = .ok (.iconst 1, 1) := by decide +kernel
theorem dL_setText_14 : decode cL_setText 14 = .ok (.ireturn, 1) := by decide +kernel
theorem dL_setText_15 : decode cL_setText 15 = .ok (.astore_n 3, 1) := by decide +kernel
theorem dL_setText_16 : decode cL_setText 16 = .ok (.iconst 2, 1) := by decide +kernel
theorem dL_setText_17 : decode cL_setText 17 = .ok (.ireturn, 1) := by decide +kernel
theorem dL_setText_18 : decode cL_setText 18 = .ok (.iconst 0, 1) := by decide +kernel
theorem dL_setText_19 : decode cL_setText 19 = .ok (.ireturn, 1) := by decide +kernel
abbrev rmL_setText : Room := { frames := 68, cells := 2, slots := 12, locals := 1714 }
noncomputable def fL_setText (n : Nat) (Sh : Sp) (M : Mm) (a0 : Nat) (a1 : Int32) (a2 : Nat) : Option (Int32 × Mm) :=
  chk (Sh a0 = some (.inl 6)) <|
  wb (fX6_setText n Sh M a0 a1) [("java/lang/IndexOutOfBoundsException", 1), ("java/lang/IllegalStateException", 2)] fun v M1 =>
  sL Sh M1 a2 0 (Int32.toInt64 v) fun M2 => some (0, M2)
set_option maxRecDepth 100000 in
set_option maxHeartbeats 4000000 in
theorem kL_setText {l : Launch} {G : Gt} {n : Nat} {Sh : Sp} {M : Mm} {a0 : Nat} {a1 : Int32} {a2 : Nat} (hfl : l.stackTraces = false) {r : Int32 × Mm} (h : fL_setText n Sh M a0 a1 a2 = some r) : CtW l yL_setText cL_setText 4 [(0, 9, 12, 13), (0, 9, 15, 17)] rmL_setText G Sh M [.ref a0, .int a1, .ref a2] (some (.int r.1)) r.2 := by
  refine CtW.of (by decide) (Nat.le_of_ble_eq_true rfl) ?_
  intro p e s m args below meth c ls C hK hX hN hP hS hb hlk hr htab hl
  replace hl : lv_has ls 4 [(0, .ref a0), (1, .int a1), (2, .ref a2)] := hl
  unfold fL_setText at h
  obtain ⟨hT, h⟩ := chk_some h
  obtain ⟨z, hz, hE, hV⟩ := wb_some h
  refine lv_aload_n C.1 C.2.1 dL_setText_0 rfl (lv_at hl 2 rfl) ?_
  refine lv_iconst (v := 0) C.1 C.2.1 dL_setText_1 (by decide) ?_
  refine lv_aload_n C.1 C.2.1 dL_setText_2 rfl (lv_at hl 0 rfl) ?_
  refine lv_iload_n C.1 C.2.1 dL_setText_3 rfl (lv_at hl 1 rfl) ?_
  refine r_VX C hK hX hb hP hS hl.1 (kX6_setText hT hfl hz) hT cl_6 wd_896 mo_X6_setText wd_897 wd_898 ⟨Nat.le_of_ble_eq_true rfl, Nat.le_of_ble_eq_true rfl⟩ ⟨Nat.le_of_ble_eq_true rfl, Nat.le_of_ble_eq_true rfl⟩ rfl (rest := [.int 0, .ref a2]) rfl (Nat.le_of_ble_eq_true rfl) dL_setText_4 (fun E ce q H locs ho hP hS hce hcv hcl => ?_) (fun v0 H locs ho hP hS => ?_)
  · have hq : z.1 = .inl E := by
      cases hz1 : z.1 with
      | inl E9 => rw [hz1] at ho; exact congrArg Sum.inl (Sum.inl.inj ho)
      | inr u => rw [hz1] at ho; cases ho
    replace h := hE E hq
    rw [wx] at h
    by_cases q0 : "java/lang/IndexOutOfBoundsException" = E
    · subst q0
      rw [if_pos rfl] at h
      have e := Option.some.inj h
      refine vx_catch (own := RL) (name := "java/lang/IndexOutOfBoundsException") (E := "java/lang/IndexOutOfBoundsException") C.2.2.2.1 [] ⟨0, 9, 12, 13⟩ [⟨0, 9, 15, 17⟩] (by rw [htab]; rfl) (fun _ h => absurd h List.not_mem_nil) (by decide) (by decide) (C.2.2.2.2 _ wd_664) (hX.nw wd_678) hce hcv hcl ?_
      refine lv_astore_n (lv' := [(3, .ref q), (0, .ref a0), (1, .int a1), (2, .ref a2)]) C.1 C.2.1 dL_setText_12 rfl hl (by decide) rfl (fun ls hl => ?_)
      refine lv_iconst (v := 1) C.1 C.2.1 dL_setText_13 (by decide) ?_
      exact w_ret C hlk hP hS hr e dL_setText_14
    rw [if_neg q0] at h
    rw [wx] at h
    by_cases q1 : "java/lang/IllegalStateException" = E
    · subst q1
      rw [if_pos rfl] at h
      have e := Option.some.inj h
      refine vx_catch (own := RL) (name := "java/lang/IllegalStateException") (E := "java/lang/IllegalStateException") C.2.2.2.1 [⟨0, 9, 12, 13⟩] ⟨0, 9, 15, 17⟩ [] (by rw [htab]; rfl) (List.forall_mem_cons.mpr ⟨Or.inr ⟨by decide, "java/lang/IndexOutOfBoundsException", C.2.2.2.2 _ wd_664, hN _ (List.mem_of_getElem? (i := 1) rfl)⟩, (fun _ h => absurd h List.not_mem_nil)⟩) (by decide) (by decide) (C.2.2.2.2 _ wd_666) (hX.nw wd_767) hce hcv hcl ?_
      refine lv_astore_n (lv' := [(3, .ref q), (0, .ref a0), (1, .int a1), (2, .ref a2)]) C.1 C.2.1 dL_setText_15 rfl hl (by decide) rfl (fun ls hl => ?_)
      refine lv_iconst (v := 2) C.1 C.2.1 dL_setText_16 (by decide) ?_
      exact w_ret C hlk hP hS hr e dL_setText_17
    rw [if_neg q1] at h
    cases h
  · cases hz1 : z.1 with
    | inl E9 => rw [hz1] at ho; cases ho
    | inr u =>
      rw [hz1] at ho
      have ev : v0 = some (.int u) := (Sum.inr.inj ho).symm
      subst ev
      replace h := hV u hz1
      show W p l e rmL_setText s m args below meth c H locs _ _ (vx_MQ below (QW G Sh r.2 (some (.int r.1))) NX args s rmL_setText.cells rmL_setText.slots (AA G)) (F0 m (4 + 3) ls (.int u :: [.int 0, .ref a2]))
      refine lv_i2l C.1 C.2.1 dL_setText_7 rfl ?_
      refine r_sL C hK hP hS dL_setText_8 h (fun M9 H locs h hP hS => ?_)
      refine lv_goto (tgt := 18) C.1 C.2.1 dL_setText_9 (by decide) ?_
      refine lv_iconst (v := 0) C.1 C.2.1 dL_setText_18 (by decide) ?_
      have e := Option.some.inj h
      exact w_ret C hlk hP hS.1 hr e dL_setText_19
theorem dL_setLabel_0 : decode cL_setLabel 0 = .ok (.aload_n 2, 1) := by decide +kernel
theorem dL_setLabel_1 : decode cL_setLabel 1 = .ok (.iconst 0, 1) := by decide +kernel
theorem dL_setLabel_2 : decode cL_setLabel 2 = .ok (.aload_n 0, 1) := by decide +kernel
theorem dL_setLabel_3 : decode cL_setLabel 3 = .ok (.iload_n 1, 1) := by decide +kernel
theorem dL_setLabel_4 : decode cL_setLabel 4 = .ok (.invokevirtual 39, 3) := by decide +kernel
theorem dL_setLabel_7 : decode cL_setLabel 7 = .ok (.i2l, 1) := by decide +kernel
theorem dL_setLabel_8 : decode cL_setLabel 8 = .ok (.lastore, 1) := by decide +kernel
theorem dL_setLabel_9 : decode cL_setLabel 9 = .ok (.goto 6, 3) := by decide +kernel
theorem dL_setLabel_12 : decode cL_setLabel 12 = .ok (.astore_n 3, 1) := by decide +kernel
theorem dL_setLabel_13 : decode cL_setLabel 13 = .ok (.iconst 1, 1) := by decide +kernel
theorem dL_setLabel_14 : decode cL_setLabel 14 = .ok (.ireturn, 1) := by decide +kernel
theorem dL_setLabel_15 : decode cL_setLabel 15 = .ok (.iconst 0, 1) := by decide +kernel
theorem dL_setLabel_16 : decode cL_setLabel 16 = .ok (.ireturn, 1) := by decide +kernel
abbrev rmL_setLabel : Room := { frames := 68, cells := 1, slots := 6, locals := 1713 }
noncomputable def fL_setLabel (n : Nat) (Sh : Sp) (M : Mm) (a0 : Nat) (a1 : Int32) (a2 : Nat) : Option (Int32 × Mm) :=
  chk (Sh a0 = some (.inl 6)) <|
  wb (fX6_setLabel n Sh M a0 a1) [("java/lang/IndexOutOfBoundsException", 1)] fun v M1 =>
  sL Sh M1 a2 0 (Int32.toInt64 v) fun M2 => some (0, M2)
set_option maxRecDepth 100000 in
set_option maxHeartbeats 4000000 in
theorem kL_setLabel {l : Launch} {G : Gt} {n : Nat} {Sh : Sp} {M : Mm} {a0 : Nat} {a1 : Int32} {a2 : Nat} (hfl : l.stackTraces = false) {r : Int32 × Mm} (h : fL_setLabel n Sh M a0 a1 a2 = some r) : CtW l yL_setLabel cL_setLabel 4 [(0, 9, 12, 13)] rmL_setLabel G Sh M [.ref a0, .int a1, .ref a2] (some (.int r.1)) r.2 := by
  refine CtW.of (by decide) (Nat.le_of_ble_eq_true rfl) ?_
  intro p e s m args below meth c ls C hK hX hN hP hS hb hlk hr htab hl
  replace hl : lv_has ls 4 [(0, .ref a0), (1, .int a1), (2, .ref a2)] := hl
  unfold fL_setLabel at h
  obtain ⟨hT, h⟩ := chk_some h
  obtain ⟨z, hz, hE, hV⟩ := wb_some h
  refine lv_aload_n C.1 C.2.1 dL_setLabel_0 rfl (lv_at hl 2 rfl) ?_
  refine lv_iconst (v := 0) C.1 C.2.1 dL_setLabel_1 (by decide) ?_
  refine lv_aload_n C.1 C.2.1 dL_setLabel_2 rfl (lv_at hl 0 rfl) ?_
  refine lv_iload_n C.1 C.2.1 dL_setLabel_3 rfl (lv_at hl 1 rfl) ?_
  refine r_VX C hK hX hb hP hS hl.1 (kX6_setLabel hT hfl hz) hT cl_6 wd_915 mo_X6_setLabel wd_916 wd_917 ⟨Nat.le_of_ble_eq_true rfl, Nat.le_of_ble_eq_true rfl⟩ ⟨Nat.le_of_ble_eq_true rfl, Nat.le_of_ble_eq_true rfl⟩ rfl (rest := [.int 0, .ref a2]) rfl (Nat.le_of_ble_eq_true rfl) dL_setLabel_4 (fun E ce q H locs ho hP hS hce hcv hcl => ?_) (fun v0 H locs ho hP hS => ?_)
  · have hq : z.1 = .inl E := by
      cases hz1 : z.1 with
      | inl E9 => rw [hz1] at ho; exact congrArg Sum.inl (Sum.inl.inj ho)
      | inr u => rw [hz1] at ho; cases ho
    replace h := hE E hq
    rw [wx] at h
    by_cases q0 : "java/lang/IndexOutOfBoundsException" = E
    · subst q0
      rw [if_pos rfl] at h
      have e := Option.some.inj h
      refine vx_catch (own := RL) (name := "java/lang/IndexOutOfBoundsException") (E := "java/lang/IndexOutOfBoundsException") C.2.2.2.1 [] ⟨0, 9, 12, 13⟩ [] (by rw [htab]; rfl) (fun _ h => absurd h List.not_mem_nil) (by decide) (by decide) (C.2.2.2.2 _ wd_664) (hX.nw wd_678) hce hcv hcl ?_
      refine lv_astore_n (lv' := [(3, .ref q), (0, .ref a0), (1, .int a1), (2, .ref a2)]) C.1 C.2.1 dL_setLabel_12 rfl hl (by decide) rfl (fun ls hl => ?_)
      refine lv_iconst (v := 1) C.1 C.2.1 dL_setLabel_13 (by decide) ?_
      exact w_ret C hlk hP hS hr e dL_setLabel_14
    rw [if_neg q0] at h
    cases h
  · cases hz1 : z.1 with
    | inl E9 => rw [hz1] at ho; cases ho
    | inr u =>
      rw [hz1] at ho
      have ev : v0 = some (.int u) := (Sum.inr.inj ho).symm
      subst ev
      replace h := hV u hz1
      show W p l e rmL_setLabel s m args below meth c H locs _ _ (vx_MQ below (QW G Sh r.2 (some (.int r.1))) NX args s rmL_setLabel.cells rmL_setLabel.slots (AA G)) (F0 m (4 + 3) ls (.int u :: [.int 0, .ref a2]))
      refine lv_i2l C.1 C.2.1 dL_setLabel_7 rfl ?_
      refine r_sL C hK hP hS dL_setLabel_8 h (fun M9 H locs h hP hS => ?_)
      refine lv_goto (tgt := 15) C.1 C.2.1 dL_setLabel_9 (by decide) ?_
      refine lv_iconst (v := 0) C.1 C.2.1 dL_setLabel_15 (by decide) ?_
      have e := Option.some.inj h
      exact w_ret C hlk hP hS.1 hr e dL_setLabel_16
theorem dL_setLabelledBy_0 : decode cL_setLabelledBy 0 = .ok (.aload_n 3, 1) := by decide +kernel
theorem dL_setLabelledBy_1 : decode cL_setLabelledBy 1 = .ok (.iconst 0, 1) := by decide +kernel
theorem dL_setLabelledBy_2 : decode cL_setLabelledBy 2 = .ok (.aload_n 0, 1) := by decide +kernel
theorem dL_setLabelledBy_3 : decode cL_setLabelledBy 3 = .ok (.iload_n 1, 1) := by decide +kernel
theorem dL_setLabelledBy_4 : decode cL_setLabelledBy 4 = .ok (.iload_n 2, 1) := by decide +kernel
theorem dL_setLabelledBy_5 : decode cL_setLabelledBy 5 = .ok (.invokevirtual 42, 3) := by decide +kernel
theorem dL_setLabelledBy_8 : decode cL_setLabelledBy 8 = .ok (.i2l, 1) := by decide +kernel
theorem dL_setLabelledBy_9 : decode cL_setLabelledBy 9 = .ok (.lastore, 1) := by decide +kernel
theorem dL_setLabelledBy_10 : decode cL_setLabelledBy 10 = .ok (.goto 11, 3) := by decide +kernel
theorem dL_setLabelledBy_13 : decode cL_setLabelledBy 13 = .ok (.astore 4, 2) := by decide +kernel
theorem dL_setLabelledBy_15 : decode cL_setLabelledBy 15 = .ok (.iconst 1, 1) := by decide +kernel
theorem dL_setLabelledBy_16 : decode cL_setLabelledBy 16 = .ok (.ireturn, 1) := by decide +kernel
theorem dL_setLabelledBy_17 : decode cL_setLabelledBy 17 = .ok (.astore 4, 2) := by decide +kernel
theorem dL_setLabelledBy_19 : decode cL_setLabelledBy 19 = .ok (.iconst 2, 1) := by decide +kernel
theorem dL_setLabelledBy_20 : decode cL_setLabelledBy 20 = .ok (.ireturn, 1) := by decide +kernel
theorem dL_setLabelledBy_21 : decode cL_setLabelledBy 21 = .ok (.iconst 0, 1) := by decide +kernel
theorem dL_setLabelledBy_22 : decode cL_setLabelledBy 22 = .ok (.ireturn, 1) := by decide +kernel
abbrev rmL_setLabelledBy : Room := { frames := 8, cells := 3, slots := 18, locals := 149 }
noncomputable def fL_setLabelledBy (n : Nat) (Sh : Sp) (M : Mm) (a0 : Nat) (a1 : Int32) (a2 : Int32) (a3 : Nat) : Option (Int32 × Mm) :=
  chk (Sh a0 = some (.inl 6)) <|
  wb (fX6_setLabelledBy n Sh M a0 a1 a2) [("java/lang/IndexOutOfBoundsException", 1), ("java/lang/IllegalArgumentException", 2)] fun v M1 =>
  sL Sh M1 a3 0 (Int32.toInt64 v) fun M2 => some (0, M2)
set_option maxRecDepth 100000 in
set_option maxHeartbeats 4000000 in
theorem kL_setLabelledBy {l : Launch} {G : Gt} {n : Nat} {Sh : Sp} {M : Mm} {a0 : Nat} {a1 : Int32} {a2 : Int32} {a3 : Nat} (hfl : l.stackTraces = false) {r : Int32 × Mm} (h : fL_setLabelledBy n Sh M a0 a1 a2 a3 = some r) : CtW l yL_setLabelledBy cL_setLabelledBy 5 [(0, 10, 13, 13), (0, 10, 17, 15)] rmL_setLabelledBy G Sh M [.ref a0, .int a1, .int a2, .ref a3] (some (.int r.1)) r.2 := by
  refine CtW.of (by decide) (Nat.le_of_ble_eq_true rfl) ?_
  intro p e s m args below meth c ls C hK hX hN hP hS hb hlk hr htab hl
  replace hl : lv_has ls 5 [(0, .ref a0), (1, .int a1), (2, .int a2), (3, .ref a3)] := hl
  unfold fL_setLabelledBy at h
  obtain ⟨hT, h⟩ := chk_some h
  obtain ⟨z, hz, hE, hV⟩ := wb_some h
  refine lv_aload_n C.1 C.2.1 dL_setLabelledBy_0 rfl (lv_at hl 3 rfl) ?_
  refine lv_iconst (v := 0) C.1 C.2.1 dL_setLabelledBy_1 (by decide) ?_
  refine lv_aload_n C.1 C.2.1 dL_setLabelledBy_2 rfl (lv_at hl 0 rfl) ?_
  refine lv_iload_n C.1 C.2.1 dL_setLabelledBy_3 rfl (lv_at hl 1 rfl) ?_
  refine lv_iload_n C.1 C.2.1 dL_setLabelledBy_4 rfl (lv_at hl 2 rfl) ?_
  refine r_VX C hK hX hb hP hS hl.1 (kX6_setLabelledBy hT hfl hz) hT cl_6 wd_923 mo_X6_setLabelledBy wd_924 wd_925 ⟨Nat.le_of_ble_eq_true rfl, Nat.le_of_ble_eq_true rfl⟩ ⟨Nat.le_of_ble_eq_true rfl, Nat.le_of_ble_eq_true rfl⟩ rfl (rest := [.int 0, .ref a3]) rfl (Nat.le_of_ble_eq_true rfl) dL_setLabelledBy_5 (fun E ce q H locs ho hP hS hce hcv hcl => ?_) (fun v0 H locs ho hP hS => ?_)
  · have hq : z.1 = .inl E := by
      cases hz1 : z.1 with
      | inl E9 => rw [hz1] at ho; exact congrArg Sum.inl (Sum.inl.inj ho)
      | inr u => rw [hz1] at ho; cases ho
    replace h := hE E hq
    rw [wx] at h
    by_cases q0 : "java/lang/IndexOutOfBoundsException" = E
    · subst q0
      rw [if_pos rfl] at h
      have e := Option.some.inj h
      refine vx_catch (own := RL) (name := "java/lang/IndexOutOfBoundsException") (E := "java/lang/IndexOutOfBoundsException") C.2.2.2.1 [] ⟨0, 10, 13, 13⟩ [⟨0, 10, 17, 15⟩] (by rw [htab]; rfl) (fun _ h => absurd h List.not_mem_nil) (by decide) (by decide) (C.2.2.2.2 _ wd_664) (hX.nw wd_678) hce hcv hcl ?_
      refine lv_astore (lv' := [(4, .ref q), (0, .ref a0), (1, .int a1), (2, .int a2), (3, .ref a3)]) C.1 C.2.1 dL_setLabelledBy_13 hl (by decide) rfl (fun ls hl => ?_)
      refine lv_iconst (v := 1) C.1 C.2.1 dL_setLabelledBy_15 (by decide) ?_
      exact w_ret C hlk hP hS hr e dL_setLabelledBy_16
    rw [if_neg q0] at h
    rw [wx] at h
    by_cases q1 : "java/lang/IllegalArgumentException" = E
    · subst q1
      rw [if_pos rfl] at h
      have e := Option.some.inj h
      refine vx_catch (own := RL) (name := "java/lang/IllegalArgumentException") (E := "java/lang/IllegalArgumentException") C.2.2.2.1 [⟨0, 10, 13, 13⟩] ⟨0, 10, 17, 15⟩ [] (by rw [htab]; rfl) (List.forall_mem_cons.mpr ⟨Or.inr ⟨by decide, "java/lang/IndexOutOfBoundsException", C.2.2.2.2 _ wd_664, hN _ (List.mem_of_getElem? (i := 0) rfl)⟩, (fun _ h => absurd h List.not_mem_nil)⟩) (by decide) (by decide) (C.2.2.2.2 _ wd_665) (hX.nw wd_747) hce hcv hcl ?_
      refine lv_astore (lv' := [(4, .ref q), (0, .ref a0), (1, .int a1), (2, .int a2), (3, .ref a3)]) C.1 C.2.1 dL_setLabelledBy_17 hl (by decide) rfl (fun ls hl => ?_)
      refine lv_iconst (v := 2) C.1 C.2.1 dL_setLabelledBy_19 (by decide) ?_
      exact w_ret C hlk hP hS hr e dL_setLabelledBy_20
    rw [if_neg q1] at h
    cases h
  · cases hz1 : z.1 with
    | inl E9 => rw [hz1] at ho; cases ho
    | inr u =>
      rw [hz1] at ho
      have ev : v0 = some (.int u) := (Sum.inr.inj ho).symm
      subst ev
      replace h := hV u hz1
      show W p l e rmL_setLabelledBy s m args below meth c H locs _ _ (vx_MQ below (QW G Sh r.2 (some (.int r.1))) NX args s rmL_setLabelledBy.cells rmL_setLabelledBy.slots (AA G)) (F0 m (5 + 3) ls (.int u :: [.int 0, .ref a3]))
      refine lv_i2l C.1 C.2.1 dL_setLabelledBy_8 rfl ?_
      refine r_sL C hK hP hS dL_setLabelledBy_9 h (fun M9 H locs h hP hS => ?_)
      refine lv_goto (tgt := 21) C.1 C.2.1 dL_setLabelledBy_10 (by decide) ?_
      refine lv_iconst (v := 0) C.1 C.2.1 dL_setLabelledBy_21 (by decide) ?_
      have e := Option.some.inj h
      exact w_ret C hlk hP hS.1 hr e dL_setLabelledBy_22
theorem dL_character_0 : decode cL_character 0 = .ok (.aload 4, 2) := by decide +kernel
theorem dL_character_2 : decode cL_character 2 = .ok (.iconst 0, 1) := by decide +kernel
theorem dL_character_3 : decode cL_character 3 = .ok (.aload_n 0, 1) := by decide +kernel
theorem dL_character_4 : decode cL_character 4 = .ok (.iload_n 1, 1) := by decide +kernel
theorem dL_character_5 : decode cL_character 5 = .ok (.iload_n 2, 1) := by decide +kernel
theorem dL_character_6 : decode cL_character 6 = .ok (.iload_n 3, 1) := by decide +kernel
theorem dL_character_7 : decode cL_character 7 = .ok (.invokevirtual 45, 3) := by decide +kernel
theorem dL_character_10 : decode cL_character 10 = .ok (.i2l, 1) := by decide +kernel
theorem dL_character_11 : decode cL_character 11 = .ok (.lastore, 1) := by decide +kernel
theorem dL_character_12 : decode cL_character 12 = .ok (.goto 11, 3) := by decide +kernel
theorem dL_character_15 : decode cL_character 15 = .ok (.astore 5, 2) := by decide +kernel
theorem dL_character_17 : decode cL_character 17 = .ok (.iconst 1, 1) := by decide +kernel
theorem dL_character_18 : decode cL_character 18 = .ok (.ireturn, 1) := by decide +kernel
theorem dL_character_19 : decode cL_character 19 = .ok (.astore 5, 2) := by decide +kernel
theorem dL_character_21 : decode cL_character 21 = .ok (.iconst 2, 1) := by decide +kernel
theorem dL_character_22 : decode cL_character 22 = .ok (.ireturn, 1) := by decide +kernel
theorem dL_character_23 : decode cL_character 23 = .ok (.iconst 0, 1) := by decide +kernel
theorem dL_character_24 : decode cL_character 24 = .ok (.ireturn, 1) := by decide +kernel
abbrev rmL_character : Room := { frames := 67, cells := 2, slots := 12, locals := 1689 }
noncomputable def fL_character (n : Nat) (Sh : Sp) (M : Mm) (a0 : Nat) (a1 : Int32) (a2 : Int32) (a3 : Int32) (a4 : Nat) : Option (Int32 × Mm) :=
  chk (Sh a0 = some (.inl 6)) <|
  wb (fX6_character n Sh M a0 a1 a2 a3) [("java/lang/IndexOutOfBoundsException", 1), ("java/lang/IllegalArgumentException", 2)] fun v M1 =>
  sL Sh M1 a4 0 (Int32.toInt64 v) fun M2 => some (0, M2)
set_option maxRecDepth 100000 in
set_option maxHeartbeats 4000000 in
theorem kL_character {l : Launch} {G : Gt} {n : Nat} {Sh : Sp} {M : Mm} {a0 : Nat} {a1 : Int32} {a2 : Int32} {a3 : Int32} {a4 : Nat} (hfl : l.stackTraces = false) {r : Int32 × Mm} (h : fL_character n Sh M a0 a1 a2 a3 a4 = some r) : CtW l yL_character cL_character 6 [(0, 12, 15, 13), (0, 12, 19, 15)] rmL_character G Sh M [.ref a0, .int a1, .int a2, .int a3, .ref a4] (some (.int r.1)) r.2 := by
  refine CtW.of (by decide) (Nat.le_of_ble_eq_true rfl) ?_
  intro p e s m args below meth c ls C hK hX hN hP hS hb hlk hr htab hl
  replace hl : lv_has ls 6 [(0, .ref a0), (1, .int a1), (2, .int a2), (3, .int a3), (4, .ref a4)] := hl
  unfold fL_character at h
  obtain ⟨hT, h⟩ := chk_some h
  obtain ⟨z, hz, hE, hV⟩ := wb_some h
  refine lv_aload C.1 C.2.1 dL_character_0 (lv_at hl 4 rfl) ?_
  refine lv_iconst (v := 0) C.1 C.2.1 dL_character_2 (by decide) ?_
  refine lv_aload_n C.1 C.2.1 dL_character_3 rfl (lv_at hl 0 rfl) ?_
  refine lv_iload_n C.1 C.2.1 dL_character_4 rfl (lv_at hl 1 rfl) ?_
  refine lv_iload_n C.1 C.2.1 dL_character_5 rfl (lv_at hl 2 rfl) ?_
  refine lv_iload_n C.1 C.2.1 dL_character_6 rfl (lv_at hl 3 rfl) ?_
  refine r_VX C hK hX hb hP hS hl.1 (kX6_character hT hfl hz) hT cl_6 wd_936 mo_X6_character wd_937 wd_938 ⟨Nat.le_of_ble_eq_true rfl, Nat.le_of_ble_eq_true rfl⟩ ⟨Nat.le_of_ble_eq_true rfl, Nat.le_of_ble_eq_true rfl⟩ rfl (rest := [.int 0, .ref a4]) rfl (Nat.le_of_ble_eq_true rfl) dL_character_7 (fun E ce q H locs ho hP hS hce hcv hcl => ?_) (fun v0 H locs ho hP hS => ?_)
  · have hq : z.1 = .inl E := by
      cases hz1 : z.1 with
      | inl E9 => rw [hz1] at ho; exact congrArg Sum.inl (Sum.inl.inj ho)
      | inr u => rw [hz1] at ho; cases ho
    replace h := hE E hq
    rw [wx] at h
    by_cases q0 : "java/lang/IndexOutOfBoundsException" = E
    · subst q0
      rw [if_pos rfl] at h
      have e := Option.some.inj h
      refine vx_catch (own := RL) (name := "java/lang/IndexOutOfBoundsException") (E := "java/lang/IndexOutOfBoundsException") C.2.2.2.1 [] ⟨0, 12, 15, 13⟩ [⟨0, 12, 19, 15⟩] (by rw [htab]; rfl) (fun _ h => absurd h List.not_mem_nil) (by decide) (by decide) (C.2.2.2.2 _ wd_664) (hX.nw wd_678) hce hcv hcl ?_
      refine lv_astore (lv' := [(5, .ref q), (0, .ref a0), (1, .int a1), (2, .int a2), (3, .int a3), (4, .ref a4)]) C.1 C.2.1 dL_character_15 hl (by decide) rfl (fun ls hl => ?_)
      refine lv_iconst (v := 1) C.1 C.2.1 dL_character_17 (by decide) ?_
      exact w_ret C hlk hP hS hr e dL_character_18
    rw [if_neg q0] at h
    rw [wx] at h
    by_cases q1 : "java/lang/IllegalArgumentException" = E
    · subst q1
      rw [if_pos rfl] at h
      have e := Option.some.inj h
      refine vx_catch (own := RL) (name := "java/lang/IllegalArgumentException") (E := "java/lang/IllegalArgumentException") C.2.2.2.1 [⟨0, 12, 15, 13⟩] ⟨0, 12, 19, 15⟩ [] (by rw [htab]; rfl) (List.forall_mem_cons.mpr ⟨Or.inr ⟨by decide, "java/lang/IndexOutOfBoundsException", C.2.2.2.2 _ wd_664, hN _ (List.mem_of_getElem? (i := 0) rfl)⟩, (fun _ h => absurd h List.not_mem_nil)⟩) (by decide) (by decide) (C.2.2.2.2 _ wd_665) (hX.nw wd_747) hce hcv hcl ?_
      refine lv_astore (lv' := [(5, .ref q), (0, .ref a0), (1, .int a1), (2, .int a2), (3, .int a3), (4, .ref a4)]) C.1 C.2.1 dL_character_19 hl (by decide) rfl (fun ls hl => ?_)
      refine lv_iconst (v := 2) C.1 C.2.1 dL_character_21 (by decide) ?_
      exact w_ret C hlk hP hS hr e dL_character_22
    rw [if_neg q1] at h
    cases h
  · cases hz1 : z.1 with
    | inl E9 => rw [hz1] at ho; cases ho
    | inr u =>
      rw [hz1] at ho
      have ev : v0 = some (.int u) := (Sum.inr.inj ho).symm
      subst ev
      replace h := hV u hz1
      show W p l e rmL_character s m args below meth c H locs _ _ (vx_MQ below (QW G Sh r.2 (some (.int r.1))) NX args s rmL_character.cells rmL_character.slots (AA G)) (F0 m (7 + 3) ls (.int u :: [.int 0, .ref a4]))
      refine lv_i2l C.1 C.2.1 dL_character_10 rfl ?_
      refine r_sL C hK hP hS dL_character_11 h (fun M9 H locs h hP hS => ?_)
      refine lv_goto (tgt := 23) C.1 C.2.1 dL_character_12 (by decide) ?_
      refine lv_iconst (v := 0) C.1 C.2.1 dL_character_23 (by decide) ?_
      have e := Option.some.inj h
      exact w_ret C hlk hP hS.1 hr e dL_character_24
theorem dL_length_0 : decode cL_length 0 = .ok (.aload_n 3, 1) := by decide +kernel
theorem dL_length_1 : decode cL_length 1 = .ok (.iconst 0, 1) := by decide +kernel
theorem dL_length_2 : decode cL_length 2 = .ok (.aload_n 0, 1) := by decide +kernel
theorem dL_length_3 : decode cL_length 3 = .ok (.iload_n 1, 1) := by decide +kernel
theorem dL_length_4 : decode cL_length 4 = .ok (.iload_n 2, 1) := by decide +kernel
theorem dL_length_5 : decode cL_length 5 = .ok (.invokevirtual 48, 3) := by decide +kernel
theorem dL_length_8 : decode cL_length 8 = .ok (.i2l, 1) := by decide +kernel
theorem dL_length_9 : decode cL_length 9 = .ok (.lastore, 1) := by decide +kernel
theorem dL_length_10 : decode cL_length 10 = .ok (.goto 11, 3) := by decide +kernel
theorem dL_length_13 : decode cL_length 13 = .ok (.astore 4, 2) := by decide +kernel
theorem dL_length_15 : decode cL_length 15 = .ok (.iconst 1, 1) := by decide +kernel
theorem dL_length_16 : decode cL_length 16 = .ok (.ireturn, 1) := by decide +kernel
theorem dL_length_17 : decode cL_length 17 = .ok (.astore 4, 2) := by decide +kernel
theorem dL_length_19 : decode cL_length 19 = .ok (.iconst 2, 1) := by decide +kernel
theorem dL_length_20 : decode cL_length 20 = .ok (.ireturn, 1) := by decide +kernel
theorem dL_length_21 : decode cL_length 21 = .ok (.iconst 0, 1) := by decide +kernel
theorem dL_length_22 : decode cL_length 22 = .ok (.ireturn, 1) := by decide +kernel
abbrev rmL_length : Room := { frames := 67, cells := 2, slots := 12, locals := 1688 }
noncomputable def fL_length (n : Nat) (Sh : Sp) (M : Mm) (a0 : Nat) (a1 : Int32) (a2 : Int32) (a3 : Nat) : Option (Int32 × Mm) :=
  chk (Sh a0 = some (.inl 6)) <|
  wb (fX6_length n Sh M a0 a1 a2) [("java/lang/IndexOutOfBoundsException", 1), ("java/lang/IllegalArgumentException", 2)] fun v M1 =>
  sL Sh M1 a3 0 (Int32.toInt64 v) fun M2 => some (0, M2)
set_option maxRecDepth 100000 in
set_option maxHeartbeats 4000000 in
theorem kL_length {l : Launch} {G : Gt} {n : Nat} {Sh : Sp} {M : Mm} {a0 : Nat} {a1 : Int32} {a2 : Int32} {a3 : Nat} (hfl : l.stackTraces = false) {r : Int32 × Mm} (h : fL_length n Sh M a0 a1 a2 a3 = some r) : CtW l yL_length cL_length 5 [(0, 10, 13, 13), (0, 10, 17, 15)] rmL_length G Sh M [.ref a0, .int a1, .int a2, .ref a3] (some (.int r.1)) r.2 := by
  refine CtW.of (by decide) (Nat.le_of_ble_eq_true rfl) ?_
  intro p e s m args below meth c ls C hK hX hN hP hS hb hlk hr htab hl
  replace hl : lv_has ls 5 [(0, .ref a0), (1, .int a1), (2, .int a2), (3, .ref a3)] := hl
  unfold fL_length at h
  obtain ⟨hT, h⟩ := chk_some h
  obtain ⟨z, hz, hE, hV⟩ := wb_some h
  refine lv_aload_n C.1 C.2.1 dL_length_0 rfl (lv_at hl 3 rfl) ?_
  refine lv_iconst (v := 0) C.1 C.2.1 dL_length_1 (by decide) ?_
  refine lv_aload_n C.1 C.2.1 dL_length_2 rfl (lv_at hl 0 rfl) ?_
  refine lv_iload_n C.1 C.2.1 dL_length_3 rfl (lv_at hl 1 rfl) ?_
  refine lv_iload_n C.1 C.2.1 dL_length_4 rfl (lv_at hl 2 rfl) ?_
  refine r_VX C hK hX hb hP hS hl.1 (kX6_length hT hfl hz) hT cl_6 wd_954 mo_X6_length wd_955 wd_956 ⟨Nat.le_of_ble_eq_true rfl, Nat.le_of_ble_eq_true rfl⟩ ⟨Nat.le_of_ble_eq_true rfl, Nat.le_of_ble_eq_true rfl⟩ rfl (rest := [.int 0, .ref a3]) rfl (Nat.le_of_ble_eq_true rfl) dL_length_5 (fun E ce q H locs ho hP hS hce hcv hcl => ?_) (fun v0 H locs ho hP hS => ?_)
  · have hq : z.1 = .inl E := by
      cases hz1 : z.1 with
      | inl E9 => rw [hz1] at ho; exact congrArg Sum.inl (Sum.inl.inj ho)
      | inr u => rw [hz1] at ho; cases ho
    replace h := hE E hq
    rw [wx] at h
    by_cases q0 : "java/lang/IndexOutOfBoundsException" = E
    · subst q0
      rw [if_pos rfl] at h
      have e := Option.some.inj h
      refine vx_catch (own := RL) (name := "java/lang/IndexOutOfBoundsException") (E := "java/lang/IndexOutOfBoundsException") C.2.2.2.1 [] ⟨0, 10, 13, 13⟩ [⟨0, 10, 17, 15⟩] (by rw [htab]; rfl) (fun _ h => absurd h List.not_mem_nil) (by decide) (by decide) (C.2.2.2.2 _ wd_664) (hX.nw wd_678) hce hcv hcl ?_
      refine lv_astore (lv' := [(4, .ref q), (0, .ref a0), (1, .int a1), (2, .int a2), (3, .ref a3)]) C.1 C.2.1 dL_length_13 hl (by decide) rfl (fun ls hl => ?_)
      refine lv_iconst (v := 1) C.1 C.2.1 dL_length_15 (by decide) ?_
      exact w_ret C hlk hP hS hr e dL_length_16
    rw [if_neg q0] at h
    rw [wx] at h
    by_cases q1 : "java/lang/IllegalArgumentException" = E
    · subst q1
      rw [if_pos rfl] at h
      have e := Option.some.inj h
      refine vx_catch (own := RL) (name := "java/lang/IllegalArgumentException") (E := "java/lang/IllegalArgumentException") C.2.2.2.1 [⟨0, 10, 13, 13⟩] ⟨0, 10, 17, 15⟩ [] (by rw [htab]; rfl) (List.forall_mem_cons.mpr ⟨Or.inr ⟨by decide, "java/lang/IndexOutOfBoundsException", C.2.2.2.2 _ wd_664, hN _ (List.mem_of_getElem? (i := 0) rfl)⟩, (fun _ h => absurd h List.not_mem_nil)⟩) (by decide) (by decide) (C.2.2.2.2 _ wd_665) (hX.nw wd_747) hce hcv hcl ?_
      refine lv_astore (lv' := [(4, .ref q), (0, .ref a0), (1, .int a1), (2, .int a2), (3, .ref a3)]) C.1 C.2.1 dL_length_17 hl (by decide) rfl (fun ls hl => ?_)
      refine lv_iconst (v := 2) C.1 C.2.1 dL_length_19 (by decide) ?_
      exact w_ret C hlk hP hS hr e dL_length_20
    rw [if_neg q1] at h
    cases h
  · cases hz1 : z.1 with
    | inl E9 => rw [hz1] at ho; cases ho
    | inr u =>
      rw [hz1] at ho
      have ev : v0 = some (.int u) := (Sum.inr.inj ho).symm
      subst ev
      replace h := hV u hz1
      show W p l e rmL_length s m args below meth c H locs _ _ (vx_MQ below (QW G Sh r.2 (some (.int r.1))) NX args s rmL_length.cells rmL_length.slots (AA G)) (F0 m (5 + 3) ls (.int u :: [.int 0, .ref a3]))
      refine lv_i2l C.1 C.2.1 dL_length_8 rfl ?_
      refine r_sL C hK hP hS dL_length_9 h (fun M9 H locs h hP hS => ?_)
      refine lv_goto (tgt := 21) C.1 C.2.1 dL_length_10 (by decide) ?_
      refine lv_iconst (v := 0) C.1 C.2.1 dL_length_21 (by decide) ?_
      have e := Option.some.inj h
      exact w_ret C hlk hP hS.1 hr e dL_length_22
theorem dL_canFocus_0 : decode cL_canFocus 0 = .ok (.aload_n 2, 1) := by decide +kernel
theorem dL_canFocus_1 : decode cL_canFocus 1 = .ok (.iconst 0, 1) := by decide +kernel
theorem dL_canFocus_2 : decode cL_canFocus 2 = .ok (.aload_n 0, 1) := by decide +kernel
theorem dL_canFocus_3 : decode cL_canFocus 3 = .ok (.iload_n 1, 1) := by decide +kernel
theorem dL_canFocus_4 : decode cL_canFocus 4 = .ok (.invokevirtual 51, 3) := by decide +kernel
theorem dL_canFocus_7 : decode cL_canFocus 7 = .ok (.ifCond .eq 7, 3) := by decide +kernel
theorem dL_canFocus_10 : decode cL_canFocus 10 = .ok (.lconst 1, 1) := by decide +kernel
theorem dL_canFocus_11 : decode cL_canFocus 11 = .ok (.goto 4, 3) := by decide +kernel
theorem dL_canFocus_14 : decode cL_canFocus 14 = .ok (.lconst 0, 1) := by decide +kernel
theorem dL_canFocus_15 : decode cL_canFocus 15 = .ok (.lastore, 1) := by decide +kernel
theorem dL_canFocus_16 : decode cL_canFocus 16 = .ok (.goto 6, 3) := by decide +kernel
theorem dL_canFocus_19 : decode cL_canFocus 19 = .ok (.astore_n 3, 1) := by decide +kernel
theorem dL_canFocus_20 : decode cL_canFocus 20 = .ok (.iconst 1, 1) := by decide +kernel
theorem dL_canFocus_21 : decode cL_canFocus 21 = .ok (.ireturn, 1) := by decide +kernel
theorem dL_canFocus_22 : decode cL_canFocus 22 = .ok (.iconst 0, 1) := by decide +kernel
theorem dL_canFocus_23 : decode cL_canFocus 23 = .ok (.ireturn, 1) := by decide +kernel
abbrev rmL_canFocus : Room := { frames := 8, cells := 1, slots := 6, locals := 172 }
noncomputable def fL_canFocus (n : Nat) (Sh : Sp) (M : Mm) (a0 : Nat) (a1 : Int32) (a2 : Nat) : Option (Int32 × Mm) :=
  chk (Sh a0 = some (.inl 6)) <|
  wb ((fX6_canFocus n Sh M a0 a1).map fun z => (z, M)) [("java/lang/IndexOutOfBoundsException", 1)] fun v M1 =>
  if v = 0 then sL Sh M1 a2 0 0 fun M2 => some (0, M2) else sL Sh M1 a2 0 1 fun M2 => some (0, M2)
set_option maxRecDepth 100000 in
set_option maxHeartbeats 4000000 in
theorem kL_canFocus {l : Launch} {G : Gt} {n : Nat} {Sh : Sp} {M : Mm} {a0 : Nat} {a1 : Int32} {a2 : Nat} (hfl : l.stackTraces = false) {r : Int32 × Mm} (h : fL_canFocus n Sh M a0 a1 a2 = some r) : CtW l yL_canFocus cL_canFocus 4 [(0, 16, 19, 13)] rmL_canFocus G Sh M [.ref a0, .int a1, .ref a2] (some (.int r.1)) r.2 := by
  refine CtW.of (by decide) (Nat.le_of_ble_eq_true rfl) ?_
  intro p e s m args below meth c ls C hK hX hN hP hS hb hlk hr htab hl
  replace hl : lv_has ls 4 [(0, .ref a0), (1, .int a1), (2, .ref a2)] := hl
  unfold fL_canFocus at h
  obtain ⟨hT, h⟩ := chk_some h
  obtain ⟨z, hz, hE, hV⟩ := wb_some h
  refine lv_aload_n C.1 C.2.1 dL_canFocus_0 rfl (lv_at hl 2 rfl) ?_
  refine lv_iconst (v := 0) C.1 C.2.1 dL_canFocus_1 (by decide) ?_
  refine lv_aload_n C.1 C.2.1 dL_canFocus_2 rfl (lv_at hl 0 rfl) ?_
  refine lv_iload_n C.1 C.2.1 dL_canFocus_3 rfl (lv_at hl 1 rfl) ?_
  obtain ⟨y0, hy0, rfl⟩ := mS2 hz
  refine r_VX C hK hX hb hP hS hl.1 (kX6_canFocus hT hfl hy0) hT cl_6 wd_961 mo_X6_canFocus wd_962 wd_963 ⟨Nat.le_of_ble_eq_true rfl, Nat.le_of_ble_eq_true rfl⟩ ⟨Nat.le_of_ble_eq_true rfl, Nat.le_of_ble_eq_true rfl⟩ rfl (rest := [.int 0, .ref a2]) rfl (Nat.le_of_ble_eq_true rfl) dL_canFocus_4 (fun E ce q H locs ho hP hS hce hcv hcl => ?_) (fun v0 H locs ho hP hS => ?_)
  · have hq : y0 = .inl E := by
      cases hz1 : y0 with
      | inl E9 => rw [hz1] at ho; exact congrArg Sum.inl (Sum.inl.inj ho)
      | inr u => rw [hz1] at ho; cases ho
    replace h := hE E hq
    rw [wx] at h
    by_cases q0 : "java/lang/IndexOutOfBoundsException" = E
    · subst q0
      rw [if_pos rfl] at h
      have e := Option.some.inj h
      refine vx_catch (own := RL) (name := "java/lang/IndexOutOfBoundsException") (E := "java/lang/IndexOutOfBoundsException") C.2.2.2.1 [] ⟨0, 16, 19, 13⟩ [] (by rw [htab]; rfl) (fun _ h => absurd h List.not_mem_nil) (by decide) (by decide) (C.2.2.2.2 _ wd_664) (hX.nw wd_678) hce hcv hcl ?_
      refine lv_astore_n (lv' := [(3, .ref q), (0, .ref a0), (1, .int a1), (2, .ref a2)]) C.1 C.2.1 dL_canFocus_19 rfl hl (by decide) rfl (fun ls hl => ?_)
      refine lv_iconst (v := 1) C.1 C.2.1 dL_canFocus_20 (by decide) ?_
      exact w_ret C hlk hP hS hr e dL_canFocus_21
    rw [if_neg q0] at h
    cases h
  · cases hz1 : y0 with
    | inl E9 => rw [hz1] at ho; cases ho
    | inr u =>
      rw [hz1] at ho
      have ev : v0 = some (.int u) := (Sum.inr.inj ho).symm
      subst ev
      replace h := hV u hz1
      show W p l e rmL_canFocus s m args below meth c H locs _ _ (vx_MQ below (QW G Sh r.2 (some (.int r.1))) NX args s rmL_canFocus.cells rmL_canFocus.slots (AA G)) (F0 m (4 + 3) ls (.int u :: [.int 0, .ref a2]))
      refine b_eq (tgt := 14) C dL_canFocus_7 (by decide) h (fun h => ?_) (fun h => ?_)
      · refine lv_lconst (v := 0) C.1 C.2.1 dL_canFocus_14 (by decide) ?_
        refine r_sL C hK hP hS dL_canFocus_15 h (fun M9 H locs h hP hS => ?_)
        refine lv_goto (tgt := 22) C.1 C.2.1 dL_canFocus_16 (by decide) ?_
        refine lv_iconst (v := 0) C.1 C.2.1 dL_canFocus_22 (by decide) ?_
        have e := Option.some.inj h
        exact w_ret C hlk hP hS.1 hr e dL_canFocus_23
      · refine lv_lconst (v := 1) C.1 C.2.1 dL_canFocus_10 (by decide) ?_
        refine lv_goto (tgt := 15) C.1 C.2.1 dL_canFocus_11 (by decide) ?_
        refine r_sL C hK hP hS dL_canFocus_15 h (fun M9 H locs h hP hS => ?_)
        refine lv_goto (tgt := 22) C.1 C.2.1 dL_canFocus_16 (by decide) ?_
        refine lv_iconst (v := 0) C.1 C.2.1 dL_canFocus_22 (by decide) ?_
        have e := Option.some.inj h
        exact w_ret C hlk hP hS.1 hr e dL_canFocus_23
theorem dL_focusOn_0 : decode cL_focusOn 0 = .ok (.aload_n 2, 1) := by decide +kernel
theorem dL_focusOn_1 : decode cL_focusOn 1 = .ok (.iconst 0, 1) := by decide +kernel
theorem dL_focusOn_2 : decode cL_focusOn 2 = .ok (.aload_n 0, 1) := by decide +kernel
theorem dL_focusOn_3 : decode cL_focusOn 3 = .ok (.iload_n 1, 1) := by decide +kernel
theorem dL_focusOn_4 : decode cL_focusOn 4 = .ok (.invokevirtual 55, 3) := by decide +kernel
theorem dL_focusOn_7 : decode cL_focusOn 7 = .ok (.i2l, 1) := by decide +kernel
theorem dL_focusOn_8 : decode cL_focusOn 8 = .ok (.lastore, 1) := by decide +kernel
theorem dL_focusOn_9 : decode cL_focusOn 9 = .ok (.goto 9, 3) := by decide +kernel
theorem dL_focusOn_12 : decode cL_focusOn 12 = .ok (.astore_n 3, 1) := by decide +kernel
theorem dL_focusOn_13 : decode cL_focusOn 13 = .ok (.iconst 1, 1) := by decide +kernel
theorem dL_focusOn_14 : decode cL_focusOn 14 = .ok (.ireturn, 1) := by decide +kernel
theorem dL_focusOn_15 : decode cL_focusOn 15 = .ok (.astore_n 3, 1) := by decide +kernel
theorem dL_focusOn_16 : decode cL_focusOn 16 = .ok (.iconst 2, 1) := by decide +kernel
theorem dL_focusOn_17 : decode cL_focusOn 17 = .ok (.ireturn, 1) := by decide +kernel
theorem dL_focusOn_18 : decode cL_focusOn 18 = .ok (.iconst 0, 1) := by decide +kernel
theorem dL_focusOn_19 : decode cL_focusOn 19 = .ok (.ireturn, 1) := by decide +kernel
abbrev rmL_focusOn : Room := { frames := 67, cells := 2, slots := 12, locals := 1687 }
noncomputable def fL_focusOn (n : Nat) (Sh : Sp) (M : Mm) (a0 : Nat) (a1 : Int32) (a2 : Nat) : Option (Int32 × Mm) :=
  chk (Sh a0 = some (.inl 6)) <|
  wb (fX6_focusOn n Sh M a0 a1) [("java/lang/IndexOutOfBoundsException", 1), ("java/lang/IllegalStateException", 2)] fun v M1 =>
  sL Sh M1 a2 0 (Int32.toInt64 v) fun M2 => some (0, M2)
set_option maxRecDepth 100000 in
set_option maxHeartbeats 4000000 in
theorem kL_focusOn {l : Launch} {G : Gt} {n : Nat} {Sh : Sp} {M : Mm} {a0 : Nat} {a1 : Int32} {a2 : Nat} (hfl : l.stackTraces = false) {r : Int32 × Mm} (h : fL_focusOn n Sh M a0 a1 a2 = some r) : CtW l yL_focusOn cL_focusOn 4 [(0, 9, 12, 13), (0, 9, 15, 17)] rmL_focusOn G Sh M [.ref a0, .int a1, .ref a2] (some (.int r.1)) r.2 := by
  refine CtW.of (by decide) (Nat.le_of_ble_eq_true rfl) ?_
  intro p e s m args below meth c ls C hK hX hN hP hS hb hlk hr htab hl
  replace hl : lv_has ls 4 [(0, .ref a0), (1, .int a1), (2, .ref a2)] := hl
  unfold fL_focusOn at h
  obtain ⟨hT, h⟩ := chk_some h
  obtain ⟨z, hz, hE, hV⟩ := wb_some h
  refine lv_aload_n C.1 C.2.1 dL_focusOn_0 rfl (lv_at hl 2 rfl) ?_
  refine lv_iconst (v := 0) C.1 C.2.1 dL_focusOn_1 (by decide) ?_
  refine lv_aload_n C.1 C.2.1 dL_focusOn_2 rfl (lv_at hl 0 rfl) ?_
  refine lv_iload_n C.1 C.2.1 dL_focusOn_3 rfl (lv_at hl 1 rfl) ?_
  refine r_VX C hK hX hb hP hS hl.1 (kX6_focusOn hT hfl hz) hT cl_6 wd_969 mo_X6_focusOn wd_970 wd_971 ⟨Nat.le_of_ble_eq_true rfl, Nat.le_of_ble_eq_true rfl⟩ ⟨Nat.le_of_ble_eq_true rfl, Nat.le_of_ble_eq_true rfl⟩ rfl (rest := [.int 0, .ref a2]) rfl (Nat.le_of_ble_eq_true rfl) dL_focusOn_4 (fun E ce q H locs ho hP hS hce hcv hcl => ?_) (fun v0 H locs ho hP hS => ?_)
  · have hq : z.1 = .inl E := by
      cases hz1 : z.1 with
      | inl E9 => rw [hz1] at ho; exact congrArg Sum.inl (Sum.inl.inj ho)
      | inr u => rw [hz1] at ho; cases ho
    replace h := hE E hq
    rw [wx] at h
    by_cases q0 : "java/lang/IndexOutOfBoundsException" = E
    · subst q0
      rw [if_pos rfl] at h
      have e := Option.some.inj h
      refine vx_catch (own := RL) (name := "java/lang/IndexOutOfBoundsException") (E := "java/lang/IndexOutOfBoundsException") C.2.2.2.1 [] ⟨0, 9, 12, 13⟩ [⟨0, 9, 15, 17⟩] (by rw [htab]; rfl) (fun _ h => absurd h List.not_mem_nil) (by decide) (by decide) (C.2.2.2.2 _ wd_664) (hX.nw wd_678) hce hcv hcl ?_
      refine lv_astore_n (lv' := [(3, .ref q), (0, .ref a0), (1, .int a1), (2, .ref a2)]) C.1 C.2.1 dL_focusOn_12 rfl hl (by decide) rfl (fun ls hl => ?_)
      refine lv_iconst (v := 1) C.1 C.2.1 dL_focusOn_13 (by decide) ?_
      exact w_ret C hlk hP hS hr e dL_focusOn_14
    rw [if_neg q0] at h
    rw [wx] at h
    by_cases q1 : "java/lang/IllegalStateException" = E
    · subst q1
      rw [if_pos rfl] at h
      have e := Option.some.inj h
      refine vx_catch (own := RL) (name := "java/lang/IllegalStateException") (E := "java/lang/IllegalStateException") C.2.2.2.1 [⟨0, 9, 12, 13⟩] ⟨0, 9, 15, 17⟩ [] (by rw [htab]; rfl) (List.forall_mem_cons.mpr ⟨Or.inr ⟨by decide, "java/lang/IndexOutOfBoundsException", C.2.2.2.2 _ wd_664, hN _ (List.mem_of_getElem? (i := 1) rfl)⟩, (fun _ h => absurd h List.not_mem_nil)⟩) (by decide) (by decide) (C.2.2.2.2 _ wd_666) (hX.nw wd_767) hce hcv hcl ?_
      refine lv_astore_n (lv' := [(3, .ref q), (0, .ref a0), (1, .int a1), (2, .ref a2)]) C.1 C.2.1 dL_focusOn_15 rfl hl (by decide) rfl (fun ls hl => ?_)
      refine lv_iconst (v := 2) C.1 C.2.1 dL_focusOn_16 (by decide) ?_
      exact w_ret C hlk hP hS hr e dL_focusOn_17
    rw [if_neg q1] at h
    cases h
  · cases hz1 : z.1 with
    | inl E9 => rw [hz1] at ho; cases ho
    | inr u =>
      rw [hz1] at ho
      have ev : v0 = some (.int u) := (Sum.inr.inj ho).symm
      subst ev
      replace h := hV u hz1
      show W p l e rmL_focusOn s m args below meth c H locs _ _ (vx_MQ below (QW G Sh r.2 (some (.int r.1))) NX args s rmL_focusOn.cells rmL_focusOn.slots (AA G)) (F0 m (4 + 3) ls (.int u :: [.int 0, .ref a2]))
      refine lv_i2l C.1 C.2.1 dL_focusOn_7 rfl ?_
      refine r_sL C hK hP hS dL_focusOn_8 h (fun M9 H locs h hP hS => ?_)
      refine lv_goto (tgt := 18) C.1 C.2.1 dL_focusOn_9 (by decide) ?_
      refine lv_iconst (v := 0) C.1 C.2.1 dL_focusOn_18 (by decide) ?_
      have e := Option.some.inj h
      exact w_ret C hlk hP hS.1 hr e dL_focusOn_19
theorem dL_open_0 : decode cL_open 0 = .ok (.aload_n 2, 1) := by decide +kernel
theorem dL_open_1 : decode cL_open 1 = .ok (.iconst 0, 1) := by decide +kernel
theorem dL_open_2 : decode cL_open 2 = .ok (.aload_n 0, 1) := by decide +kernel
theorem dL_open_3 : decode cL_open 3 = .ok (.iload_n 1, 1) := by decide +kernel
theorem dL_open_4 : decode cL_open 4 = .ok (.invokevirtual 58, 3) := by decide +kernel
theorem dL_open_7 : decode cL_open 7 = .ok (.i2l, 1) := by decide +kernel
theorem dL_open_8 : decode cL_open 8 = .ok (.lastore, 1) := by decide +kernel
theorem dL_open_9 : decode cL_open 9 = .ok (.goto 12, 3) := by decide +kernel
theorem dL_open_12 : decode cL_open 12 = .ok (.astore_n 3, 1) := by decide +kernel
theorem dL_open_13 : decode cL_open 13 = .ok (.iconst 1, 1) := by decide +kernel
theorem dL_open_14 : decode cL_open 14 = .ok (.ireturn, 1) := by decide +kernel
theorem dL_open_15 : decode cL_open 15 = .ok (.astore_n 3, 1) := by decide +kernel
theorem dL_open_16 : decode cL_open 16 = .ok (.iconst 2, 1) := by decide +kernel
theorem dL_open_17 : decode cL_open 17 = .ok (.ireturn, 1) := by decide +kernel
theorem dL_open_18 : decode cL_open 18 = .ok (.astore_n 3, 1) := by decide +kernel
theorem dL_open_19 : decode cL_open 19 = .ok (.iconst 3, 1) := by decide +kernel
theorem dL_open_20 : decode cL_open 20 = .ok (.ireturn, 1) := by decide +kernel
theorem dL_open_21 : decode cL_open 21 = .ok (.iconst 0, 1) := by decide +kernel
theorem dL_open_22 : decode cL_open 22 = .ok (.ireturn, 1) := by decide +kernel
abbrev rmL_open : Room := { frames := 67, cells := 3, slots := 18, locals := 1687 }
noncomputable def fL_open (n : Nat) (Sh : Sp) (M : Mm) (a0 : Nat) (a1 : Int32) (a2 : Nat) : Option (Int32 × Mm) :=
  chk (Sh a0 = some (.inl 6)) <|
  wb (fX6_open n Sh M a0 a1) [("java/lang/IndexOutOfBoundsException", 1), ("java/lang/IllegalArgumentException", 2), ("java/lang/IllegalStateException", 3)] fun v M1 =>
  sL Sh M1 a2 0 (Int32.toInt64 v) fun M2 => some (0, M2)
set_option maxRecDepth 100000 in
set_option maxHeartbeats 4000000 in
theorem kL_open {l : Launch} {G : Gt} {n : Nat} {Sh : Sp} {M : Mm} {a0 : Nat} {a1 : Int32} {a2 : Nat} (hfl : l.stackTraces = false) {r : Int32 × Mm} (h : fL_open n Sh M a0 a1 a2 = some r) : CtW l yL_open cL_open 4 [(0, 9, 12, 13), (0, 9, 15, 15), (0, 9, 18, 17)] rmL_open G Sh M [.ref a0, .int a1, .ref a2] (some (.int r.1)) r.2 := by
  refine CtW.of (by decide) (Nat.le_of_ble_eq_true rfl) ?_
  intro p e s m args below meth c ls C hK hX hN hP hS hb hlk hr htab hl
  replace hl : lv_has ls 4 [(0, .ref a0), (1, .int a1), (2, .ref a2)] := hl
  unfold fL_open at h
  obtain ⟨hT, h⟩ := chk_some h
  obtain ⟨z, hz, hE, hV⟩ := wb_some h
  refine lv_aload_n C.1 C.2.1 dL_open_0 rfl (lv_at hl 2 rfl) ?_
  refine lv_iconst (v := 0) C.1 C.2.1 dL_open_1 (by decide) ?_
  refine lv_aload_n C.1 C.2.1 dL_open_2 rfl (lv_at hl 0 rfl) ?_
  refine lv_iload_n C.1 C.2.1 dL_open_3 rfl (lv_at hl 1 rfl) ?_
  refine r_VX C hK hX hb hP hS hl.1 (kX6_open hT hfl hz) hT cl_6 wd_977 mo_X6_open wd_978 wd_979 ⟨Nat.le_of_ble_eq_true rfl, Nat.le_of_ble_eq_true rfl⟩ ⟨Nat.le_of_ble_eq_true rfl, Nat.le_of_ble_eq_true rfl⟩ rfl (rest := [.int 0, .ref a2]) rfl (Nat.le_of_ble_eq_true rfl) dL_open_4 (fun E ce q H locs ho hP hS hce hcv hcl => ?_) (fun v0 H locs ho hP hS => ?_)
  · have hq : z.1 = .inl E := by
      cases hz1 : z.1 with
      | inl E9 => rw [hz1] at ho; exact congrArg Sum.inl (Sum.inl.inj ho)
      | inr u => rw [hz1] at ho; cases ho
    replace h := hE E hq
    rw [wx] at h
    by_cases q0 : "java/lang/IndexOutOfBoundsException" = E
    · subst q0
      rw [if_pos rfl] at h
      have e := Option.some.inj h
      refine vx_catch (own := RL) (name := "java/lang/IndexOutOfBoundsException") (E := "java/lang/IndexOutOfBoundsException") C.2.2.2.1 [] ⟨0, 9, 12, 13⟩ [⟨0, 9, 15, 15⟩, ⟨0, 9, 18, 17⟩] (by rw [htab]; rfl) (fun _ h => absurd h List.not_mem_nil) (by decide) (by decide) (C.2.2.2.2 _ wd_664) (hX.nw wd_678) hce hcv hcl ?_
      refine lv_astore_n (lv' := [(3, .ref q), (0, .ref a0), (1, .int a1), (2, .ref a2)]) C.1 C.2.1 dL_open_12 rfl hl (by decide) rfl (fun ls hl => ?_)
      refine lv_iconst (v := 1) C.1 C.2.1 dL_open_13 (by decide) ?_
      exact w_ret C hlk hP hS hr e dL_open_14
    rw [if_neg q0] at h
    rw [wx] at h
    by_cases q1 : "java/lang/IllegalArgumentException" = E
    · subst q1
      rw [if_pos rfl] at h
      have e := Option.some.inj h
      refine vx_catch (own := RL) (name := "java/lang/IllegalArgumentException") (E := "java/lang/IllegalArgumentException") C.2.2.2.1 [⟨0, 9, 12, 13⟩] ⟨0, 9, 15, 15⟩ [⟨0, 9, 18, 17⟩] (by rw [htab]; rfl) (List.forall_mem_cons.mpr ⟨Or.inr ⟨by decide, "java/lang/IndexOutOfBoundsException", C.2.2.2.2 _ wd_664, hN _ (List.mem_of_getElem? (i := 0) rfl)⟩, (fun _ h => absurd h List.not_mem_nil)⟩) (by decide) (by decide) (C.2.2.2.2 _ wd_665) (hX.nw wd_747) hce hcv hcl ?_
      refine lv_astore_n (lv' := [(3, .ref q), (0, .ref a0), (1, .int a1), (2, .ref a2)]) C.1 C.2.1 dL_open_15 rfl hl (by decide) rfl (fun ls hl => ?_)
      refine lv_iconst (v := 2) C.1 C.2.1 dL_open_16 (by decide) ?_
      exact w_ret C hlk hP hS hr e dL_open_17
    rw [if_neg q1] at h
    rw [wx] at h
    by_cases q2 : "java/lang/IllegalStateException" = E
    · subst q2
      rw [if_pos rfl] at h
      have e := Option.some.inj h
      refine vx_catch (own := RL) (name := "java/lang/IllegalStateException") (E := "java/lang/IllegalStateException") C.2.2.2.1 [⟨0, 9, 12, 13⟩, ⟨0, 9, 15, 15⟩] ⟨0, 9, 18, 17⟩ [] (by rw [htab]; rfl) (List.forall_mem_cons.mpr ⟨Or.inr ⟨by decide, "java/lang/IndexOutOfBoundsException", C.2.2.2.2 _ wd_664, hN _ (List.mem_of_getElem? (i := 1) rfl)⟩, (List.forall_mem_cons.mpr ⟨Or.inr ⟨by decide, "java/lang/IllegalArgumentException", C.2.2.2.2 _ wd_665, hN _ (List.mem_of_getElem? (i := 3) rfl)⟩, (fun _ h => absurd h List.not_mem_nil)⟩)⟩) (by decide) (by decide) (C.2.2.2.2 _ wd_666) (hX.nw wd_767) hce hcv hcl ?_
      refine lv_astore_n (lv' := [(3, .ref q), (0, .ref a0), (1, .int a1), (2, .ref a2)]) C.1 C.2.1 dL_open_18 rfl hl (by decide) rfl (fun ls hl => ?_)
      refine lv_iconst (v := 3) C.1 C.2.1 dL_open_19 (by decide) ?_
      exact w_ret C hlk hP hS hr e dL_open_20
    rw [if_neg q2] at h
    cases h
  · cases hz1 : z.1 with
    | inl E9 => rw [hz1] at ho; cases ho
    | inr u =>
      rw [hz1] at ho
      have ev : v0 = some (.int u) := (Sum.inr.inj ho).symm
      subst ev
      replace h := hV u hz1
      show W p l e rmL_open s m args below meth c H locs _ _ (vx_MQ below (QW G Sh r.2 (some (.int r.1))) NX args s rmL_open.cells rmL_open.slots (AA G)) (F0 m (4 + 3) ls (.int u :: [.int 0, .ref a2]))
      refine lv_i2l C.1 C.2.1 dL_open_7 rfl ?_
      refine r_sL C hK hP hS dL_open_8 h (fun M9 H locs h hP hS => ?_)
      refine lv_goto (tgt := 21) C.1 C.2.1 dL_open_9 (by decide) ?_
      refine lv_iconst (v := 0) C.1 C.2.1 dL_open_21 (by decide) ?_
      have e := Option.some.inj h
      exact w_ret C hlk hP hS.1 hr e dL_open_22
theorem dL_close_0 : decode cL_close 0 = .ok (.aload_n 2, 1) := by decide +kernel
theorem dL_close_1 : decode cL_close 1 = .ok (.iconst 0, 1) := by decide +kernel
theorem dL_close_2 : decode cL_close 2 = .ok (.aload_n 0, 1) := by decide +kernel
theorem dL_close_3 : decode cL_close 3 = .ok (.iload_n 1, 1) := by decide +kernel
theorem dL_close_4 : decode cL_close 4 = .ok (.invokevirtual 61, 3) := by decide +kernel
theorem dL_close_7 : decode cL_close 7 = .ok (.i2l, 1) := by decide +kernel
theorem dL_close_8 : decode cL_close 8 = .ok (.lastore, 1) := by decide +kernel
theorem dL_close_9 : decode cL_close 9 = .ok (.goto 12, 3) := by decide +kernel
theorem dL_close_12 : decode cL_close 12 = .ok (.astore_n 3, 1) := by decide +kernel
theorem dL_close_13 : decode cL_close 13 = .ok (.iconst 1, 1) := by decide +kernel
theorem dL_close_14 : decode cL_close 14 = .ok (.ireturn, 1) := by decide +kernel
theorem dL_close_15 : decode cL_close 15 = .ok (.astore_n 3, 1) := by decide +kernel
theorem dL_close_16 : decode cL_close 16 = .ok (.iconst 2, 1) := by decide +kernel
theorem dL_close_17 : decode cL_close 17 = .ok (.ireturn, 1) := by decide +kernel
theorem dL_close_18 : decode cL_close 18 = .ok (.astore_n 3, 1) := by decide +kernel
theorem dL_close_19 : decode cL_close 19 = .ok (.iconst 3, 1) := by decide +kernel
theorem dL_close_20 : decode cL_close 20 = .ok (.ireturn, 1) := by decide +kernel
theorem dL_close_21 : decode cL_close 21 = .ok (.iconst 0, 1) := by decide +kernel
theorem dL_close_22 : decode cL_close 22 = .ok (.ireturn, 1) := by decide +kernel
abbrev rmL_close : Room := { frames := 67, cells := 3, slots := 18, locals := 1687 }
noncomputable def fL_close (n : Nat) (Sh : Sp) (M : Mm) (a0 : Nat) (a1 : Int32) (a2 : Nat) : Option (Int32 × Mm) :=
  chk (Sh a0 = some (.inl 6)) <|
  wb (fX6_close n Sh M a0 a1) [("java/lang/IndexOutOfBoundsException", 1), ("java/lang/IllegalArgumentException", 2), ("java/lang/IllegalStateException", 3)] fun v M1 =>
  sL Sh M1 a2 0 (Int32.toInt64 v) fun M2 => some (0, M2)
set_option maxRecDepth 100000 in
set_option maxHeartbeats 4000000 in
theorem kL_close {l : Launch} {G : Gt} {n : Nat} {Sh : Sp} {M : Mm} {a0 : Nat} {a1 : Int32} {a2 : Nat} (hfl : l.stackTraces = false) {r : Int32 × Mm} (h : fL_close n Sh M a0 a1 a2 = some r) : CtW l yL_close cL_close 4 [(0, 9, 12, 13), (0, 9, 15, 15), (0, 9, 18, 17)] rmL_close G Sh M [.ref a0, .int a1, .ref a2] (some (.int r.1)) r.2 := by
  refine CtW.of (by decide) (Nat.le_of_ble_eq_true rfl) ?_
  intro p e s m args below meth c ls C hK hX hN hP hS hb hlk hr htab hl
  replace hl : lv_has ls 4 [(0, .ref a0), (1, .int a1), (2, .ref a2)] := hl
  unfold fL_close at h
  obtain ⟨hT, h⟩ := chk_some h
  obtain ⟨z, hz, hE, hV⟩ := wb_some h
  refine lv_aload_n C.1 C.2.1 dL_close_0 rfl (lv_at hl 2 rfl) ?_
  refine lv_iconst (v := 0) C.1 C.2.1 dL_close_1 (by decide) ?_
  refine lv_aload_n C.1 C.2.1 dL_close_2 rfl (lv_at hl 0 rfl) ?_
  refine lv_iload_n C.1 C.2.1 dL_close_3 rfl (lv_at hl 1 rfl) ?_
  refine r_VX C hK hX hb hP hS hl.1 (kX6_close hT hfl hz) hT cl_6 wd_995 mo_X6_close wd_996 wd_997 ⟨Nat.le_of_ble_eq_true rfl, Nat.le_of_ble_eq_true rfl⟩ ⟨Nat.le_of_ble_eq_true rfl, Nat.le_of_ble_eq_true rfl⟩ rfl (rest := [.int 0, .ref a2]) rfl (Nat.le_of_ble_eq_true rfl) dL_close_4 (fun E ce q H locs ho hP hS hce hcv hcl => ?_) (fun v0 H locs ho hP hS => ?_)
  · have hq : z.1 = .inl E := by
      cases hz1 : z.1 with
      | inl E9 => rw [hz1] at ho; exact congrArg Sum.inl (Sum.inl.inj ho)
      | inr u => rw [hz1] at ho; cases ho
    replace h := hE E hq
    rw [wx] at h
    by_cases q0 : "java/lang/IndexOutOfBoundsException" = E
    · subst q0
      rw [if_pos rfl] at h
      have e := Option.some.inj h
      refine vx_catch (own := RL) (name := "java/lang/IndexOutOfBoundsException") (E := "java/lang/IndexOutOfBoundsException") C.2.2.2.1 [] ⟨0, 9, 12, 13⟩ [⟨0, 9, 15, 15⟩, ⟨0, 9, 18, 17⟩] (by rw [htab]; rfl) (fun _ h => absurd h List.not_mem_nil) (by decide) (by decide) (C.2.2.2.2 _ wd_664) (hX.nw wd_678) hce hcv hcl ?_
      refine lv_astore_n (lv' := [(3, .ref q), (0, .ref a0), (1, .int a1), (2, .ref a2)]) C.1 C.2.1 dL_close_12 rfl hl (by decide) rfl (fun ls hl => ?_)
      refine lv_iconst (v := 1) C.1 C.2.1 dL_close_13 (by decide) ?_
      exact w_ret C hlk hP hS hr e dL_close_14
    rw [if_neg q0] at h
    rw [wx] at h
    by_cases q1 : "java/lang/IllegalArgumentException" = E
    · subst q1
      rw [if_pos rfl] at h
      have e := Option.some.inj h
      refine vx_catch (own := RL) (name := "java/lang/IllegalArgumentException") (E := "java/lang/IllegalArgumentException") C.2.2.2.1 [⟨0, 9, 12, 13⟩] ⟨0, 9, 15, 15⟩ [⟨0, 9, 18, 17⟩] (by rw [htab]; rfl) (List.forall_mem_cons.mpr ⟨Or.inr ⟨by decide, "java/lang/IndexOutOfBoundsException", C.2.2.2.2 _ wd_664, hN _ (List.mem_of_getElem? (i := 0) rfl)⟩, (fun _ h => absurd h List.not_mem_nil)⟩) (by decide) (by decide) (C.2.2.2.2 _ wd_665) (hX.nw wd_747) hce hcv hcl ?_
      refine lv_astore_n (lv' := [(3, .ref q), (0, .ref a0), (1, .int a1), (2, .ref a2)]) C.1 C.2.1 dL_close_15 rfl hl (by decide) rfl (fun ls hl => ?_)
      refine lv_iconst (v := 2) C.1 C.2.1 dL_close_16 (by decide) ?_
      exact w_ret C hlk hP hS hr e dL_close_17
    rw [if_neg q1] at h
    rw [wx] at h
    by_cases q2 : "java/lang/IllegalStateException" = E
    · subst q2
      rw [if_pos rfl] at h
      have e := Option.some.inj h
      refine vx_catch (own := RL) (name := "java/lang/IllegalStateException") (E := "java/lang/IllegalStateException") C.2.2.2.1 [⟨0, 9, 12, 13⟩, ⟨0, 9, 15, 15⟩] ⟨0, 9, 18, 17⟩ [] (by rw [htab]; rfl) (List.forall_mem_cons.mpr ⟨Or.inr ⟨by decide, "java/lang/IndexOutOfBoundsException", C.2.2.2.2 _ wd_664, hN _ (List.mem_of_getElem? (i := 1) rfl)⟩, (List.forall_mem_cons.mpr ⟨Or.inr ⟨by decide, "java/lang/IllegalArgumentException", C.2.2.2.2 _ wd_665, hN _ (List.mem_of_getElem? (i := 3) rfl)⟩, (fun _ h => absurd h List.not_mem_nil)⟩)⟩) (by decide) (by decide) (C.2.2.2.2 _ wd_666) (hX.nw wd_767) hce hcv hcl ?_
      refine lv_astore_n (lv' := [(3, .ref q), (0, .ref a0), (1, .int a1), (2, .ref a2)]) C.1 C.2.1 dL_close_18 rfl hl (by decide) rfl (fun ls hl => ?_)
      refine lv_iconst (v := 3) C.1 C.2.1 dL_close_19 (by decide) ?_
      exact w_ret C hlk hP hS hr e dL_close_20
    rw [if_neg q2] at h
    cases h
  · cases hz1 : z.1 with
    | inl E9 => rw [hz1] at ho; cases ho
    | inr u =>
      rw [hz1] at ho
      have ev : v0 = some (.int u) := (Sum.inr.inj ho).symm
      subst ev
      replace h := hV u hz1
      show W p l e rmL_close s m args below meth c H locs _ _ (vx_MQ below (QW G Sh r.2 (some (.int r.1))) NX args s rmL_close.cells rmL_close.slots (AA G)) (F0 m (4 + 3) ls (.int u :: [.int 0, .ref a2]))
      refine lv_i2l C.1 C.2.1 dL_close_7 rfl ?_
      refine r_sL C hK hP hS dL_close_8 h (fun M9 H locs h hP hS => ?_)
      refine lv_goto (tgt := 21) C.1 C.2.1 dL_close_9 (by decide) ?_
      refine lv_iconst (v := 0) C.1 C.2.1 dL_close_21 (by decide) ?_
      have e := Option.some.inj h
      exact w_ret C hlk hP hS.1 hr e dL_close_22
theorem dL_region_0 : decode cL_region 0 = .ok (.aload_n 2, 1) := by decide +kernel
theorem dL_region_1 : decode cL_region 1 = .ok (.iconst 0, 1) := by decide +kernel
theorem dL_region_2 : decode cL_region 2 = .ok (.aload_n 0, 1) := by decide +kernel
theorem dL_region_3 : decode cL_region 3 = .ok (.iload_n 1, 1) := by decide +kernel
theorem dL_region_4 : decode cL_region 4 = .ok (.invokevirtual 64, 3) := by decide +kernel
theorem dL_region_7 : decode cL_region 7 = .ok (.i2l, 1) := by decide +kernel
theorem dL_region_8 : decode cL_region 8 = .ok (.lastore, 1) := by decide +kernel
theorem dL_region_9 : decode cL_region 9 = .ok (.goto 6, 3) := by decide +kernel
theorem dL_region_12 : decode cL_region 12 = .ok (.astore_n 3, 1) := by decide +kernel
theorem dL_region_13 : decode cL_region 13 = .ok (.iconst 1, 1) := by decide +kernel
theorem dL_region_14 : decode cL_region 14 = .ok (.ireturn, 1) := by decide +kernel
theorem dL_region_15 : decode cL_region 15 = .ok (.iconst 0, 1) := by decide +kernel
theorem dL_region_16 : decode cL_region 16 = .ok (.ireturn, 1) := by decide +kernel
abbrev rmL_region : Room := { frames := 8, cells := 1, slots := 6, locals := 142 }
noncomputable def fL_region (n : Nat) (Sh : Sp) (M : Mm) (a0 : Nat) (a1 : Int32) (a2 : Nat) : Option (Int32 × Mm) :=
  chk (Sh a0 = some (.inl 6)) <|
  wb ((fX6_region n Sh M a0 a1).map fun z => (z, M)) [("java/lang/IndexOutOfBoundsException", 1)] fun v M1 =>
  sL Sh M1 a2 0 (Int32.toInt64 v) fun M2 => some (0, M2)
set_option maxRecDepth 100000 in
set_option maxHeartbeats 4000000 in
theorem kL_region {l : Launch} {G : Gt} {n : Nat} {Sh : Sp} {M : Mm} {a0 : Nat} {a1 : Int32} {a2 : Nat} (hfl : l.stackTraces = false) {r : Int32 × Mm} (h : fL_region n Sh M a0 a1 a2 = some r) : CtW l yL_region cL_region 4 [(0, 9, 12, 13)] rmL_region G Sh M [.ref a0, .int a1, .ref a2] (some (.int r.1)) r.2 := by
  refine CtW.of (by decide) (Nat.le_of_ble_eq_true rfl) ?_
  intro p e s m args below meth c ls C hK hX hN hP hS hb hlk hr htab hl
  replace hl : lv_has ls 4 [(0, .ref a0), (1, .int a1), (2, .ref a2)] := hl
  unfold fL_region at h
  obtain ⟨hT, h⟩ := chk_some h
  obtain ⟨z, hz, hE, hV⟩ := wb_some h
  refine lv_aload_n C.1 C.2.1 dL_region_0 rfl (lv_at hl 2 rfl) ?_
  refine lv_iconst (v := 0) C.1 C.2.1 dL_region_1 (by decide) ?_
  refine lv_aload_n C.1 C.2.1 dL_region_2 rfl (lv_at hl 0 rfl) ?_
  refine lv_iload_n C.1 C.2.1 dL_region_3 rfl (lv_at hl 1 rfl) ?_
  obtain ⟨y0, hy0, rfl⟩ := mS2 hz
  refine r_VX C hK hX hb hP hS hl.1 (kX6_region hT hfl hy0) hT cl_6 wd_1011 mo_X6_region wd_1012 wd_1013 ⟨Nat.le_of_ble_eq_true rfl, Nat.le_of_ble_eq_true rfl⟩ ⟨Nat.le_of_ble_eq_true rfl, Nat.le_of_ble_eq_true rfl⟩ rfl (rest := [.int 0, .ref a2]) rfl (Nat.le_of_ble_eq_true rfl) dL_region_4 (fun E ce q H locs ho hP hS hce hcv hcl => ?_) (fun v0 H locs ho hP hS => ?_)
  · have hq : y0 = .inl E := by
      cases hz1 : y0 with
      | inl E9 => rw [hz1] at ho; exact congrArg Sum.inl (Sum.inl.inj ho)
      | inr u => rw [hz1] at ho; cases ho
    replace h := hE E hq
    rw [wx] at h
    by_cases q0 : "java/lang/IndexOutOfBoundsException" = E
    · subst q0
      rw [if_pos rfl] at h
      have e := Option.some.inj h
      refine vx_catch (own := RL) (name := "java/lang/IndexOutOfBoundsException") (E := "java/lang/IndexOutOfBoundsException") C.2.2.2.1 [] ⟨0, 9, 12, 13⟩ [] (by rw [htab]; rfl) (fun _ h => absurd h List.not_mem_nil) (by decide) (by decide) (C.2.2.2.2 _ wd_664) (hX.nw wd_678) hce hcv hcl ?_
      refine lv_astore_n (lv' := [(3, .ref q), (0, .ref a0), (1, .int a1), (2, .ref a2)]) C.1 C.2.1 dL_region_12 rfl hl (by decide) rfl (fun ls hl => ?_)
      refine lv_iconst (v := 1) C.1 C.2.1 dL_region_13 (by decide) ?_
      exact w_ret C hlk hP hS hr e dL_region_14
    rw [if_neg q0] at h
    cases h
  · cases hz1 : y0 with
    | inl E9 => rw [hz1] at ho; cases ho
    | inr u =>
      rw [hz1] at ho
      have ev : v0 = some (.int u) := (Sum.inr.inj ho).symm
      subst ev
      replace h := hV u hz1
      show W p l e rmL_region s m args below meth c H locs _ _ (vx_MQ below (QW G Sh r.2 (some (.int r.1))) NX args s rmL_region.cells rmL_region.slots (AA G)) (F0 m (4 + 3) ls (.int u :: [.int 0, .ref a2]))
      refine lv_i2l C.1 C.2.1 dL_region_7 rfl ?_
      refine r_sL C hK hP hS dL_region_8 h (fun M9 H locs h hP hS => ?_)
      refine lv_goto (tgt := 15) C.1 C.2.1 dL_region_9 (by decide) ?_
      refine lv_iconst (v := 0) C.1 C.2.1 dL_region_15 (by decide) ?_
      have e := Option.some.inj h
      exact w_ret C hlk hP hS.1 hr e dL_region_16
theorem dL_announcement_0 : decode cL_announcement 0 = .ok (.aload_n 3, 1) := by decide +kernel
theorem dL_announcement_1 : decode cL_announcement 1 = .ok (.iconst 0, 1) := by decide +kernel
theorem dL_announcement_2 : decode cL_announcement 2 = .ok (.aload_n 0, 1) := by decide +kernel
theorem dL_announcement_3 : decode cL_announcement 3 = .ok (.iload_n 1, 1) := by decide +kernel
theorem dL_announcement_4 : decode cL_announcement 4 = .ok (.iload_n 2, 1) := by decide +kernel
theorem dL_announcement_5 : decode cL_announcement 5 = .ok (.invokevirtual 67, 3) := by decide +kernel
theorem dL_announcement_8 : decode cL_announcement 8 = .ok (.i2l, 1) := by decide +kernel
theorem dL_announcement_9 : decode cL_announcement 9 = .ok (.lastore, 1) := by decide +kernel
theorem dL_announcement_10 : decode cL_announcement 10 = .ok (.goto 7, 3) := by decide +kernel
theorem dL_announcement_13 : decode cL_announcement 13 = .ok (.astore 4, 2) := by decide +kernel
theorem dL_announcement_15 : decode cL_announcement 15 = .ok (.iconst 1, 1) := by decide +kernel
theorem dL_announcement_16 : decode cL_announcement 16 = .ok (.ireturn, 1) := by decide +kernel
theorem dL_announcement_17 : decode cL_announcement 17 = .ok (.iconst 0, 1) := by decide +kernel
theorem dL_announcement_18 : decode cL_announcement 18 = .ok (.ireturn, 1) := by decide +kernel
abbrev rmL_announcement : Room := { frames := 8, cells := 1, slots := 6, locals := 143 }
noncomputable def fL_announcement (n : Nat) (Sh : Sp) (M : Mm) (a0 : Nat) (a1 : Int32) (a2 : Int32) (a3 : Nat) : Option (Int32 × Mm) :=
  chk (Sh a0 = some (.inl 6)) <|
  wb ((fX6_announcement n Sh M a0 a1 a2).map fun z => (z, M)) [("java/lang/IllegalArgumentException", 1)] fun v M1 =>
  sL Sh M1 a3 0 (Int32.toInt64 v) fun M2 => some (0, M2)
set_option maxRecDepth 100000 in
set_option maxHeartbeats 4000000 in
theorem kL_announcement {l : Launch} {G : Gt} {n : Nat} {Sh : Sp} {M : Mm} {a0 : Nat} {a1 : Int32} {a2 : Int32} {a3 : Nat} (hfl : l.stackTraces = false) {r : Int32 × Mm} (h : fL_announcement n Sh M a0 a1 a2 a3 = some r) : CtW l yL_announcement cL_announcement 5 [(0, 10, 13, 15)] rmL_announcement G Sh M [.ref a0, .int a1, .int a2, .ref a3] (some (.int r.1)) r.2 := by
  refine CtW.of (by decide) (Nat.le_of_ble_eq_true rfl) ?_
  intro p e s m args below meth c ls C hK hX hN hP hS hb hlk hr htab hl
  replace hl : lv_has ls 5 [(0, .ref a0), (1, .int a1), (2, .int a2), (3, .ref a3)] := hl
  unfold fL_announcement at h
  obtain ⟨hT, h⟩ := chk_some h
  obtain ⟨z, hz, hE, hV⟩ := wb_some h
  refine lv_aload_n C.1 C.2.1 dL_announcement_0 rfl (lv_at hl 3 rfl) ?_
  refine lv_iconst (v := 0) C.1 C.2.1 dL_announcement_1 (by decide) ?_
  refine lv_aload_n C.1 C.2.1 dL_announcement_2 rfl (lv_at hl 0 rfl) ?_
  refine lv_iload_n C.1 C.2.1 dL_announcement_3 rfl (lv_at hl 1 rfl) ?_
  refine lv_iload_n C.1 C.2.1 dL_announcement_4 rfl (lv_at hl 2 rfl) ?_
  obtain ⟨y0, hy0, rfl⟩ := mS2 hz
  refine r_VX C hK hX hb hP hS hl.1 (kX6_announcement hT hfl hy0) hT cl_6 wd_1019 mo_X6_announcement wd_1020 wd_1021 ⟨Nat.le_of_ble_eq_true rfl, Nat.le_of_ble_eq_true rfl⟩ ⟨Nat.le_of_ble_eq_true rfl, Nat.le_of_ble_eq_true rfl⟩ rfl (rest := [.int 0, .ref a3]) rfl (Nat.le_of_ble_eq_true rfl) dL_announcement_5 (fun E ce q H locs ho hP hS hce hcv hcl => ?_) (fun v0 H locs ho hP hS => ?_)
  · have hq : y0 = .inl E := by
      cases hz1 : y0 with
      | inl E9 => rw [hz1] at ho; exact congrArg Sum.inl (Sum.inl.inj ho)
      | inr u => rw [hz1] at ho; cases ho
    replace h := hE E hq
    rw [wx] at h
    by_cases q0 : "java/lang/IllegalArgumentException" = E
    · subst q0
      rw [if_pos rfl] at h
      have e := Option.some.inj h
      refine vx_catch (own := RL) (name := "java/lang/IllegalArgumentException") (E := "java/lang/IllegalArgumentException") C.2.2.2.1 [] ⟨0, 10, 13, 15⟩ [] (by rw [htab]; rfl) (fun _ h => absurd h List.not_mem_nil) (by decide) (by decide) (C.2.2.2.2 _ wd_665) (hX.nw wd_747) hce hcv hcl ?_
      refine lv_astore (lv' := [(4, .ref q), (0, .ref a0), (1, .int a1), (2, .int a2), (3, .ref a3)]) C.1 C.2.1 dL_announcement_13 hl (by decide) rfl (fun ls hl => ?_)
      refine lv_iconst (v := 1) C.1 C.2.1 dL_announcement_15 (by decide) ?_
      exact w_ret C hlk hP hS hr e dL_announcement_16
    rw [if_neg q0] at h
    cases h
  · cases hz1 : y0 with
    | inl E9 => rw [hz1] at ho; cases ho
    | inr u =>
      rw [hz1] at ho
      have ev : v0 = some (.int u) := (Sum.inr.inj ho).symm
      subst ev
      replace h := hV u hz1
      show W p l e rmL_announcement s m args below meth c H locs _ _ (vx_MQ below (QW G Sh r.2 (some (.int r.1))) NX args s rmL_announcement.cells rmL_announcement.slots (AA G)) (F0 m (5 + 3) ls (.int u :: [.int 0, .ref a3]))
      refine lv_i2l C.1 C.2.1 dL_announcement_8 rfl ?_
      refine r_sL C hK hP hS dL_announcement_9 h (fun M9 H locs h hP hS => ?_)
      refine lv_goto (tgt := 17) C.1 C.2.1 dL_announcement_10 (by decide) ?_
      refine lv_iconst (v := 0) C.1 C.2.1 dL_announcement_17 (by decide) ?_
      have e := Option.some.inj h
      exact w_ret C hlk hP hS.1 hr e dL_announcement_18
theorem dL_cellPlace_0 : decode cL_cellPlace 0 = .ok (.aload_n 3, 1) := by decide +kernel
theorem dL_cellPlace_1 : decode cL_cellPlace 1 = .ok (.iconst 0, 1) := by decide +kernel
theorem dL_cellPlace_2 : decode cL_cellPlace 2 = .ok (.aload_n 0, 1) := by decide +kernel
theorem dL_cellPlace_3 : decode cL_cellPlace 3 = .ok (.iload_n 1, 1) := by decide +kernel
theorem dL_cellPlace_4 : decode cL_cellPlace 4 = .ok (.iload_n 2, 1) := by decide +kernel
theorem dL_cellPlace_5 : decode cL_cellPlace 5 = .ok (.invokevirtual 70, 3) := by decide +kernel
theorem dL_cellPlace_8 : decode cL_cellPlace 8 = .ok (.i2l, 1) := by decide +kernel
theorem dL_cellPlace_9 : decode cL_cellPlace 9 = .ok (.lastore, 1) := by decide +kernel
theorem dL_cellPlace_10 : decode cL_cellPlace 10 = .ok (.goto 7, 3) := by decide +kernel
theorem dL_cellPlace_13 : decode cL_cellPlace 13 = .ok (.astore 4, 2) := by decide +kernel
theorem dL_cellPlace_15 : decode cL_cellPlace 15 = .ok (.iconst 1, 1) := by decide +kernel
theorem dL_cellPlace_16 : decode cL_cellPlace 16 = .ok (.ireturn, 1) := by decide +kernel
theorem dL_cellPlace_17 : decode cL_cellPlace 17 = .ok (.iconst 0, 1) := by decide +kernel
theorem dL_cellPlace_18 : decode cL_cellPlace 18 = .ok (.ireturn, 1) := by decide +kernel
abbrev rmL_cellPlace : Room := { frames := 8, cells := 1, slots := 6, locals := 143 }
noncomputable def fL_cellPlace (n : Nat) (Sh : Sp) (M : Mm) (a0 : Nat) (a1 : Int32) (a2 : Int32) (a3 : Nat) : Option (Int32 × Mm) :=
  chk (Sh a0 = some (.inl 6)) <|
  wb ((fX6_cellPlace n Sh M a0 a1 a2).map fun z => (z, M)) [("java/lang/IndexOutOfBoundsException", 1)] fun v M1 =>
  sL Sh M1 a3 0 (Int32.toInt64 v) fun M2 => some (0, M2)
set_option maxRecDepth 100000 in
set_option maxHeartbeats 4000000 in
theorem kL_cellPlace {l : Launch} {G : Gt} {n : Nat} {Sh : Sp} {M : Mm} {a0 : Nat} {a1 : Int32} {a2 : Int32} {a3 : Nat} (hfl : l.stackTraces = false) {r : Int32 × Mm} (h : fL_cellPlace n Sh M a0 a1 a2 a3 = some r) : CtW l yL_cellPlace cL_cellPlace 5 [(0, 10, 13, 13)] rmL_cellPlace G Sh M [.ref a0, .int a1, .int a2, .ref a3] (some (.int r.1)) r.2 := by
  refine CtW.of (by decide) (Nat.le_of_ble_eq_true rfl) ?_
  intro p e s m args below meth c ls C hK hX hN hP hS hb hlk hr htab hl
  replace hl : lv_has ls 5 [(0, .ref a0), (1, .int a1), (2, .int a2), (3, .ref a3)] := hl
  unfold fL_cellPlace at h
  obtain ⟨hT, h⟩ := chk_some h
  obtain ⟨z, hz, hE, hV⟩ := wb_some h
  refine lv_aload_n C.1 C.2.1 dL_cellPlace_0 rfl (lv_at hl 3 rfl) ?_
  refine lv_iconst (v := 0) C.1 C.2.1 dL_cellPlace_1 (by decide) ?_
  refine lv_aload_n C.1 C.2.1 dL_cellPlace_2 rfl (lv_at hl 0 rfl) ?_
  refine lv_iload_n C.1 C.2.1 dL_cellPlace_3 rfl (lv_at hl 1 rfl) ?_
  refine lv_iload_n C.1 C.2.1 dL_cellPlace_4 rfl (lv_at hl 2 rfl) ?_
  obtain ⟨y0, hy0, rfl⟩ := mS2 hz
  refine r_VX C hK hX hb hP hS hl.1 (kX6_cellPlace hT hfl hy0) hT cl_6 wd_1026 mo_X6_cellPlace wd_1027 wd_1028 ⟨Nat.le_of_ble_eq_true rfl, Nat.le_of_ble_eq_true rfl⟩ ⟨Nat.le_of_ble_eq_true rfl, Nat.le_of_ble_eq_true rfl⟩ rfl (rest := [.int 0, .ref a3]) rfl (Nat.le_of_ble_eq_true rfl) dL_cellPlace_5 (fun E ce q H locs ho hP hS hce hcv hcl => ?_) (fun v0 H locs ho hP hS => ?_)
  · have hq : y0 = .inl E := by
      cases hz1 : y0 with
      | inl E9 => rw [hz1] at ho; exact congrArg Sum.inl (Sum.inl.inj ho)
      | inr u => rw [hz1] at ho; cases ho
    replace h := hE E hq
    rw [wx] at h
    by_cases q0 : "java/lang/IndexOutOfBoundsException" = E
    · subst q0
      rw [if_pos rfl] at h
      have e := Option.some.inj h
      refine vx_catch (own := RL) (name := "java/lang/IndexOutOfBoundsException") (E := "java/lang/IndexOutOfBoundsException") C.2.2.2.1 [] ⟨0, 10, 13, 13⟩ [] (by rw [htab]; rfl) (fun _ h => absurd h List.not_mem_nil) (by decide) (by decide) (C.2.2.2.2 _ wd_664) (hX.nw wd_678) hce hcv hcl ?_
      refine lv_astore (lv' := [(4, .ref q), (0, .ref a0), (1, .int a1), (2, .int a2), (3, .ref a3)]) C.1 C.2.1 dL_cellPlace_13 hl (by decide) rfl (fun ls hl => ?_)
      refine lv_iconst (v := 1) C.1 C.2.1 dL_cellPlace_15 (by decide) ?_
      exact w_ret C hlk hP hS hr e dL_cellPlace_16
    rw [if_neg q0] at h
    cases h
  · cases hz1 : y0 with
    | inl E9 => rw [hz1] at ho; cases ho
    | inr u =>
      rw [hz1] at ho
      have ev : v0 = some (.int u) := (Sum.inr.inj ho).symm
      subst ev
      replace h := hV u hz1
      show W p l e rmL_cellPlace s m args below meth c H locs _ _ (vx_MQ below (QW G Sh r.2 (some (.int r.1))) NX args s rmL_cellPlace.cells rmL_cellPlace.slots (AA G)) (F0 m (5 + 3) ls (.int u :: [.int 0, .ref a3]))
      refine lv_i2l C.1 C.2.1 dL_cellPlace_8 rfl ?_
      refine r_sL C hK hP hS dL_cellPlace_9 h (fun M9 H locs h hP hS => ?_)
      refine lv_goto (tgt := 17) C.1 C.2.1 dL_cellPlace_10 (by decide) ?_
      refine lv_iconst (v := 0) C.1 C.2.1 dL_cellPlace_17 (by decide) ?_
      have e := Option.some.inj h
      exact w_ret C hlk hP hS.1 hr e dL_cellPlace_18
theorem dL_cellAt_0 : decode cL_cellAt 0 = .ok (.aload 4, 2) := by decide +kernel
theorem dL_cellAt_2 : decode cL_cellAt 2 = .ok (.iconst 0, 1) := by decide +kernel
theorem dL_cellAt_3 : decode cL_cellAt 3 = .ok (.aload_n 0, 1) := by decide +kernel
theorem dL_cellAt_4 : decode cL_cellAt 4 = .ok (.iload_n 1, 1) := by decide +kernel
theorem dL_cellAt_5 : decode cL_cellAt 5 = .ok (.iload_n 2, 1) := by decide +kernel
theorem dL_cellAt_6 : decode cL_cellAt 6 = .ok (.iload_n 3, 1) := by decide +kernel
theorem dL_cellAt_7 : decode cL_cellAt 7 = .ok (.invokevirtual 74, 3) := by decide +kernel
theorem dL_cellAt_10 : decode cL_cellAt 10 = .ok (.i2l, 1) := by decide +kernel
theorem dL_cellAt_11 : decode cL_cellAt 11 = .ok (.lastore, 1) := by decide +kernel
theorem dL_cellAt_12 : decode cL_cellAt 12 = .ok (.goto 7, 3) := by decide +kernel
theorem dL_cellAt_15 : decode cL_cellAt 15 = .ok (.astore 5, 2) := by decide +kernel
theorem dL_cellAt_17 : decode cL_cellAt 17 = .ok (.iconst 1, 1) := by decide +kernel
theorem dL_cellAt_18 : decode cL_cellAt 18 = .ok (.ireturn, 1) := by decide +kernel
theorem dL_cellAt_19 : decode cL_cellAt 19 = .ok (.iconst 0, 1) := by decide +kernel
theorem dL_cellAt_20 : decode cL_cellAt 20 = .ok (.ireturn, 1) := by decide +kernel
abbrev rmL_cellAt : Room := { frames := 8, cells := 1, slots := 6, locals := 144 }
noncomputable def fL_cellAt (n : Nat) (Sh : Sp) (M : Mm) (a0 : Nat) (a1 : Int32) (a2 : Int32) (a3 : Int32) (a4 : Nat) : Option (Int32 × Mm) :=
  chk (Sh a0 = some (.inl 6)) <|
  wb ((fX6_cellAt n Sh M a0 a1 a2 a3).map fun z => (z, M)) [("java/lang/IndexOutOfBoundsException", 1)] fun v M1 =>
  sL Sh M1 a4 0 (Int32.toInt64 v) fun M2 => some (0, M2)
set_option maxRecDepth 100000 in
set_option maxHeartbeats 4000000 in
theorem kL_cellAt {l : Launch} {G : Gt} {n : Nat} {Sh : Sp} {M : Mm} {a0 : Nat} {a1 : Int32} {a2 : Int32} {a3 : Int32} {a4 : Nat} (hfl : l.stackTraces = false) {r : Int32 × Mm} (h : fL_cellAt n Sh M a0 a1 a2 a3 a4 = some r) : CtW l yL_cellAt cL_cellAt 6 [(0, 12, 15, 13)] rmL_cellAt G Sh M [.ref a0, .int a1, .int a2, .int a3, .ref a4] (some (.int r.1)) r.2 := by
  refine CtW.of (by decide) (Nat.le_of_ble_eq_true rfl) ?_
  intro p e s m args below meth c ls C hK hX hN hP hS hb hlk hr htab hl
  replace hl : lv_has ls 6 [(0, .ref a0), (1, .int a1), (2, .int a2), (3, .int a3), (4, .ref a4)] := hl
  unfold fL_cellAt at h
  obtain ⟨hT, h⟩ := chk_some h
  obtain ⟨z, hz, hE, hV⟩ := wb_some h
  refine lv_aload C.1 C.2.1 dL_cellAt_0 (lv_at hl 4 rfl) ?_
  refine lv_iconst (v := 0) C.1 C.2.1 dL_cellAt_2 (by decide) ?_
  refine lv_aload_n C.1 C.2.1 dL_cellAt_3 rfl (lv_at hl 0 rfl) ?_
  refine lv_iload_n C.1 C.2.1 dL_cellAt_4 rfl (lv_at hl 1 rfl) ?_
  refine lv_iload_n C.1 C.2.1 dL_cellAt_5 rfl (lv_at hl 2 rfl) ?_
  refine lv_iload_n C.1 C.2.1 dL_cellAt_6 rfl (lv_at hl 3 rfl) ?_
  obtain ⟨y0, hy0, rfl⟩ := mS2 hz
  refine r_VX C hK hX hb hP hS hl.1 (kX6_cellAt hT hfl hy0) hT cl_6 wd_1056 mo_X6_cellAt wd_1057 wd_1058 ⟨Nat.le_of_ble_eq_true rfl, Nat.le_of_ble_eq_true rfl⟩ ⟨Nat.le_of_ble_eq_true rfl, Nat.le_of_ble_eq_true rfl⟩ rfl (rest := [.int 0, .ref a4]) rfl (Nat.le_of_ble_eq_true rfl) dL_cellAt_7 (fun E ce q H locs ho hP hS hce hcv hcl => ?_) (fun v0 H locs ho hP hS => ?_)
  · have hq : y0 = .inl E := by
      cases hz1 : y0 with
      | inl E9 => rw [hz1] at ho; exact congrArg Sum.inl (Sum.inl.inj ho)
      | inr u => rw [hz1] at ho; cases ho
    replace h := hE E hq
    rw [wx] at h
    by_cases q0 : "java/lang/IndexOutOfBoundsException" = E
    · subst q0
      rw [if_pos rfl] at h
      have e := Option.some.inj h
      refine vx_catch (own := RL) (name := "java/lang/IndexOutOfBoundsException") (E := "java/lang/IndexOutOfBoundsException") C.2.2.2.1 [] ⟨0, 12, 15, 13⟩ [] (by rw [htab]; rfl) (fun _ h => absurd h List.not_mem_nil) (by decide) (by decide) (C.2.2.2.2 _ wd_664) (hX.nw wd_678) hce hcv hcl ?_
      refine lv_astore (lv' := [(5, .ref q), (0, .ref a0), (1, .int a1), (2, .int a2), (3, .int a3), (4, .ref a4)]) C.1 C.2.1 dL_cellAt_15 hl (by decide) rfl (fun ls hl => ?_)
      refine lv_iconst (v := 1) C.1 C.2.1 dL_cellAt_17 (by decide) ?_
      exact w_ret C hlk hP hS hr e dL_cellAt_18
    rw [if_neg q0] at h
    cases h
  · cases hz1 : y0 with
    | inl E9 => rw [hz1] at ho; cases ho
    | inr u =>
      rw [hz1] at ho
      have ev : v0 = some (.int u) := (Sum.inr.inj ho).symm
      subst ev
      replace h := hV u hz1
      show W p l e rmL_cellAt s m args below meth c H locs _ _ (vx_MQ below (QW G Sh r.2 (some (.int r.1))) NX args s rmL_cellAt.cells rmL_cellAt.slots (AA G)) (F0 m (7 + 3) ls (.int u :: [.int 0, .ref a4]))
      refine lv_i2l C.1 C.2.1 dL_cellAt_10 rfl ?_
      refine r_sL C hK hP hS dL_cellAt_11 h (fun M9 H locs h hP hS => ?_)
      refine lv_goto (tgt := 19) C.1 C.2.1 dL_cellAt_12 (by decide) ?_
      refine lv_iconst (v := 0) C.1 C.2.1 dL_cellAt_19 (by decide) ?_
      have e := Option.some.inj h
      exact w_ret C hlk hP hS.1 hr e dL_cellAt_20
theorem dL_header_0 : decode cL_header 0 = .ok (.aload_n 3, 1) := by decide +kernel
theorem dL_header_1 : decode cL_header 1 = .ok (.iconst 0, 1) := by decide +kernel
theorem dL_header_2 : decode cL_header 2 = .ok (.aload_n 0, 1) := by decide +kernel
theorem dL_header_3 : decode cL_header 3 = .ok (.iload_n 1, 1) := by decide +kernel
theorem dL_header_4 : decode cL_header 4 = .ok (.iload_n 2, 1) := by decide +kernel
theorem dL_header_5 : decode cL_header 5 = .ok (.invokevirtual 77, 3) := by decide +kernel
theorem dL_header_8 : decode cL_header 8 = .ok (.i2l, 1) := by decide +kernel
theorem dL_header_9 : decode cL_header 9 = .ok (.lastore, 1) := by decide +kernel
theorem dL_header_10 : decode cL_header 10 = .ok (.goto 7, 3) := by decide +kernel
theorem dL_header_13 : decode cL_header 13 = .ok (.astore 4, 2) := by decide +kernel
theorem dL_header_15 : decode cL_header 15 = .ok (.iconst 1, 1) := by decide +kernel
theorem dL_header_16 : decode cL_header 16 = .ok (.ireturn, 1) := by decide +kernel
theorem dL_header_17 : decode cL_header 17 = .ok (.iconst 0, 1) := by decide +kernel
theorem dL_header_18 : decode cL_header 18 = .ok (.ireturn, 1) := by decide +kernel
abbrev rmL_header : Room := { frames := 8, cells := 1, slots := 6, locals := 180 }
noncomputable def fL_header (n : Nat) (Sh : Sp) (M : Mm) (a0 : Nat) (a1 : Int32) (a2 : Int32) (a3 : Nat) : Option (Int32 × Mm) :=
  chk (Sh a0 = some (.inl 6)) <|
  wb ((fX6_header n Sh M a0 a1 a2).map fun z => (z, M)) [("java/lang/IndexOutOfBoundsException", 1)] fun v M1 =>
  sL Sh M1 a3 0 (Int32.toInt64 v) fun M2 => some (0, M2)
set_option maxRecDepth 100000 in
set_option maxHeartbeats 4000000 in
theorem kL_header {l : Launch} {G : Gt} {n : Nat} {Sh : Sp} {M : Mm} {a0 : Nat} {a1 : Int32} {a2 : Int32} {a3 : Nat} (hfl : l.stackTraces = false) {r : Int32 × Mm} (h : fL_header n Sh M a0 a1 a2 a3 = some r) : CtW l yL_header cL_header 5 [(0, 10, 13, 13)] rmL_header G Sh M [.ref a0, .int a1, .int a2, .ref a3] (some (.int r.1)) r.2 := by
  refine CtW.of (by decide) (Nat.le_of_ble_eq_true rfl) ?_
  intro p e s m args below meth c ls C hK hX hN hP hS hb hlk hr htab hl
  replace hl : lv_has ls 5 [(0, .ref a0), (1, .int a1), (2, .int a2), (3, .ref a3)] := hl
  unfold fL_header at h
  obtain ⟨hT, h⟩ := chk_some h
  obtain ⟨z, hz, hE, hV⟩ := wb_some h
  refine lv_aload_n C.1 C.2.1 dL_header_0 rfl (lv_at hl 3 rfl) ?_
  refine lv_iconst (v := 0) C.1 C.2.1 dL_header_1 (by decide) ?_
  refine lv_aload_n C.1 C.2.1 dL_header_2 rfl (lv_at hl 0 rfl) ?_
  refine lv_iload_n C.1 C.2.1 dL_header_3 rfl (lv_at hl 1 rfl) ?_
  refine lv_iload_n C.1 C.2.1 dL_header_4 rfl (lv_at hl 2 rfl) ?_
  obtain ⟨y0, hy0, rfl⟩ := mS2 hz
  refine r_VX C hK hX hb hP hS hl.1 (kX6_header hT hfl hy0) hT cl_6 wd_1071 mo_X6_header wd_1072 wd_1073 ⟨Nat.le_of_ble_eq_true rfl, Nat.le_of_ble_eq_true rfl⟩ ⟨Nat.le_of_ble_eq_true rfl, Nat.le_of_ble_eq_true rfl⟩ rfl (rest := [.int 0, .ref a3]) rfl (Nat.le_of_ble_eq_true rfl) dL_header_5 (fun E ce q H locs ho hP hS hce hcv hcl => ?_) (fun v0 H locs ho hP hS => ?_)
  · have hq : y0 = .inl E := by
      cases hz1 : y0 with
      | inl E9 => rw [hz1] at ho; exact congrArg Sum.inl (Sum.inl.inj ho)
      | inr u => rw [hz1] at ho; cases ho
    replace h := hE E hq
    rw [wx] at h
    by_cases q0 : "java/lang/IndexOutOfBoundsException" = E
    · subst q0
      rw [if_pos rfl] at h
      have e := Option.some.inj h
      refine vx_catch (own := RL) (name := "java/lang/IndexOutOfBoundsException") (E := "java/lang/IndexOutOfBoundsException") C.2.2.2.1 [] ⟨0, 10, 13, 13⟩ [] (by rw [htab]; rfl) (fun _ h => absurd h List.not_mem_nil) (by decide) (by decide) (C.2.2.2.2 _ wd_664) (hX.nw wd_678) hce hcv hcl ?_
      refine lv_astore (lv' := [(4, .ref q), (0, .ref a0), (1, .int a1), (2, .int a2), (3, .ref a3)]) C.1 C.2.1 dL_header_13 hl (by decide) rfl (fun ls hl => ?_)
      refine lv_iconst (v := 1) C.1 C.2.1 dL_header_15 (by decide) ?_
      exact w_ret C hlk hP hS hr e dL_header_16
    rw [if_neg q0] at h
    cases h
  · cases hz1 : y0 with
    | inl E9 => rw [hz1] at ho; cases ho
    | inr u =>
      rw [hz1] at ho
      have ev : v0 = some (.int u) := (Sum.inr.inj ho).symm
      subst ev
      replace h := hV u hz1
      show W p l e rmL_header s m args below meth c H locs _ _ (vx_MQ below (QW G Sh r.2 (some (.int r.1))) NX args s rmL_header.cells rmL_header.slots (AA G)) (F0 m (5 + 3) ls (.int u :: [.int 0, .ref a3]))
      refine lv_i2l C.1 C.2.1 dL_header_8 rfl ?_
      refine r_sL C hK hP hS dL_header_9 h (fun M9 H locs h hP hS => ?_)
      refine lv_goto (tgt := 17) C.1 C.2.1 dL_header_10 (by decide) ?_
      refine lv_iconst (v := 0) C.1 C.2.1 dL_header_17 (by decide) ?_
      have e := Option.some.inj h
      exact w_ret C hlk hP hS.1 hr e dL_header_18
theorem dL_read_0 : decode cL_read 0 = .ok (.aload_n 2, 1) := by decide +kernel
theorem dL_read_1 : decode cL_read 1 = .ok (.iconst 0, 1) := by decide +kernel
theorem dL_read_2 : decode cL_read 2 = .ok (.aload_n 0, 1) := by decide +kernel
theorem dL_read_3 : decode cL_read 3 = .ok (.iload_n 1, 1) := by decide +kernel
theorem dL_read_4 : decode cL_read 4 = .ok (.invokevirtual 80, 3) := by decide +kernel
theorem dL_read_7 : decode cL_read 7 = .ok (.i2l, 1) := by decide +kernel
theorem dL_read_8 : decode cL_read 8 = .ok (.lastore, 1) := by decide +kernel
theorem dL_read_9 : decode cL_read 9 = .ok (.goto 9, 3) := by decide +kernel
theorem dL_read_12 : decode cL_read 12 = .ok (.astore_n 3, 1) := by decide +kernel
theorem dL_read_13 : decode cL_read 13 = .ok (.iconst 1, 1) := by decide +kernel
theorem dL_read_14 : decode cL_read 14 = .ok (.ireturn, 1) := by decide +kernel
theorem dL_read_15 : decode cL_read 15 = .ok (.astore_n 3, 1) := by decide +kernel
theorem dL_read_16 : decode cL_read 16 = .ok (.iconst 2, 1) := by decide +kernel
theorem dL_read_17 : decode cL_read 17 = .ok (.ireturn, 1) := by decide +kernel
theorem dL_read_18 : decode cL_read 18 = .ok (.iconst 0, 1) := by decide +kernel
theorem dL_read_19 : decode cL_read 19 = .ok (.ireturn, 1) := by decide +kernel
abbrev rmL_read : Room := { frames := 68, cells := 2, slots := 12, locals := 1709 }
noncomputable def fL_read (n : Nat) (Sh : Sp) (M : Mm) (a0 : Nat) (a1 : Int32) (a2 : Nat) : Option (Int32 × Mm) :=
  chk (Sh a0 = some (.inl 6)) <|
  wb (fX6_read n Sh M a0 a1) [("java/lang/IndexOutOfBoundsException", 1), ("java/lang/IllegalStateException", 2)] fun v M1 =>
  sL Sh M1 a2 0 (Int32.toInt64 v) fun M2 => some (0, M2)
set_option maxRecDepth 100000 in
set_option maxHeartbeats 4000000 in
theorem kL_read {l : Launch} {G : Gt} {n : Nat} {Sh : Sp} {M : Mm} {a0 : Nat} {a1 : Int32} {a2 : Nat} (hfl : l.stackTraces = false) {r : Int32 × Mm} (h : fL_read n Sh M a0 a1 a2 = some r) : CtW l yL_read cL_read 4 [(0, 9, 12, 13), (0, 9, 15, 17)] rmL_read G Sh M [.ref a0, .int a1, .ref a2] (some (.int r.1)) r.2 := by
  refine CtW.of (by decide) (Nat.le_of_ble_eq_true rfl) ?_
  intro p e s m args below meth c ls C hK hX hN hP hS hb hlk hr htab hl
  replace hl : lv_has ls 4 [(0, .ref a0), (1, .int a1), (2, .ref a2)] := hl
  unfold fL_read at h
  obtain ⟨hT, h⟩ := chk_some h
  obtain ⟨z, hz, hE, hV⟩ := wb_some h
  refine lv_aload_n C.1 C.2.1 dL_read_0 rfl (lv_at hl 2 rfl) ?_
  refine lv_iconst (v := 0) C.1 C.2.1 dL_read_1 (by decide) ?_
  refine lv_aload_n C.1 C.2.1 dL_read_2 rfl (lv_at hl 0 rfl) ?_
  refine lv_iload_n C.1 C.2.1 dL_read_3 rfl (lv_at hl 1 rfl) ?_
  refine r_VX C hK hX hb hP hS hl.1 (kX6_read hT hfl hz) hT cl_6 wd_1095 mo_X6_read wd_1096 wd_1097 ⟨Nat.le_of_ble_eq_true rfl, Nat.le_of_ble_eq_true rfl⟩ ⟨Nat.le_of_ble_eq_true rfl, Nat.le_of_ble_eq_true rfl⟩ rfl (rest := [.int 0, .ref a2]) rfl (Nat.le_of_ble_eq_true rfl) dL_read_4 (fun E ce q H locs ho hP hS hce hcv hcl => ?_) (fun v0 H locs ho hP hS => ?_)
  · have hq : z.1 = .inl E := by
      cases hz1 : z.1 with
      | inl E9 => rw [hz1] at ho; exact congrArg Sum.inl (Sum.inl.inj ho)
      | inr u => rw [hz1] at ho; cases ho
    replace h := hE E hq
    rw [wx] at h
    by_cases q0 : "java/lang/IndexOutOfBoundsException" = E
    · subst q0
      rw [if_pos rfl] at h
      have e := Option.some.inj h
      refine vx_catch (own := RL) (name := "java/lang/IndexOutOfBoundsException") (E := "java/lang/IndexOutOfBoundsException") C.2.2.2.1 [] ⟨0, 9, 12, 13⟩ [⟨0, 9, 15, 17⟩] (by rw [htab]; rfl) (fun _ h => absurd h List.not_mem_nil) (by decide) (by decide) (C.2.2.2.2 _ wd_664) (hX.nw wd_678) hce hcv hcl ?_
      refine lv_astore_n (lv' := [(3, .ref q), (0, .ref a0), (1, .int a1), (2, .ref a2)]) C.1 C.2.1 dL_read_12 rfl hl (by decide) rfl (fun ls hl => ?_)
      refine lv_iconst (v := 1) C.1 C.2.1 dL_read_13 (by decide) ?_
      exact w_ret C hlk hP hS hr e dL_read_14
    rw [if_neg q0] at h
    rw [wx] at h
    by_cases q1 : "java/lang/IllegalStateException" = E
    · subst q1
      rw [if_pos rfl] at h
      have e := Option.some.inj h
      refine vx_catch (own := RL) (name := "java/lang/IllegalStateException") (E := "java/lang/IllegalStateException") C.2.2.2.1 [⟨0, 9, 12, 13⟩] ⟨0, 9, 15, 17⟩ [] (by rw [htab]; rfl) (List.forall_mem_cons.mpr ⟨Or.inr ⟨by decide, "java/lang/IndexOutOfBoundsException", C.2.2.2.2 _ wd_664, hN _ (List.mem_of_getElem? (i := 1) rfl)⟩, (fun _ h => absurd h List.not_mem_nil)⟩) (by decide) (by decide) (C.2.2.2.2 _ wd_666) (hX.nw wd_767) hce hcv hcl ?_
      refine lv_astore_n (lv' := [(3, .ref q), (0, .ref a0), (1, .int a1), (2, .ref a2)]) C.1 C.2.1 dL_read_15 rfl hl (by decide) rfl (fun ls hl => ?_)
      refine lv_iconst (v := 2) C.1 C.2.1 dL_read_16 (by decide) ?_
      exact w_ret C hlk hP hS hr e dL_read_17
    rw [if_neg q1] at h
    cases h
  · cases hz1 : z.1 with
    | inl E9 => rw [hz1] at ho; cases ho
    | inr u =>
      rw [hz1] at ho
      have ev : v0 = some (.int u) := (Sum.inr.inj ho).symm
      subst ev
      replace h := hV u hz1
      show W p l e rmL_read s m args below meth c H locs _ _ (vx_MQ below (QW G Sh r.2 (some (.int r.1))) NX args s rmL_read.cells rmL_read.slots (AA G)) (F0 m (4 + 3) ls (.int u :: [.int 0, .ref a2]))
      refine lv_i2l C.1 C.2.1 dL_read_7 rfl ?_
      refine r_sL C hK hP hS dL_read_8 h (fun M9 H locs h hP hS => ?_)
      refine lv_goto (tgt := 18) C.1 C.2.1 dL_read_9 (by decide) ?_
      refine lv_iconst (v := 0) C.1 C.2.1 dL_read_18 (by decide) ?_
      have e := Option.some.inj h
      exact w_ret C hlk hP hS.1 hr e dL_read_19
theorem dL_readBeside_0 : decode cL_readBeside 0 = .ok (.aload_n 2, 1) := by decide +kernel
theorem dL_readBeside_1 : decode cL_readBeside 1 = .ok (.iconst 0, 1) := by decide +kernel
theorem dL_readBeside_2 : decode cL_readBeside 2 = .ok (.aload_n 0, 1) := by decide +kernel
theorem dL_readBeside_3 : decode cL_readBeside 3 = .ok (.iload_n 1, 1) := by decide +kernel
theorem dL_readBeside_4 : decode cL_readBeside 4 = .ok (.invokevirtual 83, 3) := by decide +kernel
theorem dL_readBeside_7 : decode cL_readBeside 7 = .ok (.i2l, 1) := by decide +kernel
theorem dL_readBeside_8 : decode cL_readBeside 8 = .ok (.lastore, 1) := by decide +kernel
theorem dL_readBeside_9 : decode cL_readBeside 9 = .ok (.goto 9, 3) := by decide +kernel
theorem dL_readBeside_12 : decode cL_readBeside 12 = .ok (.astore_n 3, 1) := by decide +kernel
theorem dL_readBeside_13 : decode cL_readBeside 13 = .ok (.iconst 1, 1) := by decide +kernel
theorem dL_readBeside_14 : decode cL_readBeside 14 = .ok (.ireturn, 1) := by decide +kernel
theorem dL_readBeside_15 : decode cL_readBeside 15 = .ok (.astore_n 3, 1) := by decide +kernel
theorem dL_readBeside_16 : decode cL_readBeside 16 = .ok (.iconst 2, 1) := by decide +kernel
theorem dL_readBeside_17 : decode cL_readBeside 17 = .ok (.ireturn, 1) := by decide +kernel
theorem dL_readBeside_18 : decode cL_readBeside 18 = .ok (.iconst 0, 1) := by decide +kernel
theorem dL_readBeside_19 : decode cL_readBeside 19 = .ok (.ireturn, 1) := by decide +kernel
abbrev rmL_readBeside : Room := { frames := 68, cells := 2, slots := 12, locals := 1710 }
noncomputable def fL_readBeside (n : Nat) (Sh : Sp) (M : Mm) (a0 : Nat) (a1 : Int32) (a2 : Nat) : Option (Int32 × Mm) :=
  chk (Sh a0 = some (.inl 6)) <|
  wb (fX6_readBeside n Sh M a0 a1) [("java/lang/IllegalArgumentException", 1), ("java/lang/IllegalStateException", 2)] fun v M1 =>
  sL Sh M1 a2 0 (Int32.toInt64 v) fun M2 => some (0, M2)
set_option maxRecDepth 100000 in
set_option maxHeartbeats 4000000 in
theorem kL_readBeside {l : Launch} {G : Gt} {n : Nat} {Sh : Sp} {M : Mm} {a0 : Nat} {a1 : Int32} {a2 : Nat} (hfl : l.stackTraces = false) {r : Int32 × Mm} (h : fL_readBeside n Sh M a0 a1 a2 = some r) : CtW l yL_readBeside cL_readBeside 4 [(0, 9, 12, 15), (0, 9, 15, 17)] rmL_readBeside G Sh M [.ref a0, .int a1, .ref a2] (some (.int r.1)) r.2 := by
  refine CtW.of (by decide) (Nat.le_of_ble_eq_true rfl) ?_
  intro p e s m args below meth c ls C hK hX hN hP hS hb hlk hr htab hl
  replace hl : lv_has ls 4 [(0, .ref a0), (1, .int a1), (2, .ref a2)] := hl
  unfold fL_readBeside at h
  obtain ⟨hT, h⟩ := chk_some h
  obtain ⟨z, hz, hE, hV⟩ := wb_some h
  refine lv_aload_n C.1 C.2.1 dL_readBeside_0 rfl (lv_at hl 2 rfl) ?_
  refine lv_iconst (v := 0) C.1 C.2.1 dL_readBeside_1 (by decide) ?_
  refine lv_aload_n C.1 C.2.1 dL_readBeside_2 rfl (lv_at hl 0 rfl) ?_
  refine lv_iload_n C.1 C.2.1 dL_readBeside_3 rfl (lv_at hl 1 rfl) ?_
  refine r_VX C hK hX hb hP hS hl.1 (kX6_readBeside hT hfl hz) hT cl_6 wd_1111 mo_X6_readBeside wd_1112 wd_1113 ⟨Nat.le_of_ble_eq_true rfl, Nat.le_of_ble_eq_true rfl⟩ ⟨Nat.le_of_ble_eq_true rfl, Nat.le_of_ble_eq_true rfl⟩ rfl (rest := [.int 0, .ref a2]) rfl (Nat.le_of_ble_eq_true rfl) dL_readBeside_4 (fun E ce q H locs ho hP hS hce hcv hcl => ?_) (fun v0 H locs ho hP hS => ?_)
  · have hq : z.1 = .inl E := by
      cases hz1 : z.1 with
      | inl E9 => rw [hz1] at ho; exact congrArg Sum.inl (Sum.inl.inj ho)
      | inr u => rw [hz1] at ho; cases ho
    replace h := hE E hq
    rw [wx] at h
    by_cases q0 : "java/lang/IllegalArgumentException" = E
    · subst q0
      rw [if_pos rfl] at h
      have e := Option.some.inj h
      refine vx_catch (own := RL) (name := "java/lang/IllegalArgumentException") (E := "java/lang/IllegalArgumentException") C.2.2.2.1 [] ⟨0, 9, 12, 15⟩ [⟨0, 9, 15, 17⟩] (by rw [htab]; rfl) (fun _ h => absurd h List.not_mem_nil) (by decide) (by decide) (C.2.2.2.2 _ wd_665) (hX.nw wd_747) hce hcv hcl ?_
      refine lv_astore_n (lv' := [(3, .ref q), (0, .ref a0), (1, .int a1), (2, .ref a2)]) C.1 C.2.1 dL_readBeside_12 rfl hl (by decide) rfl (fun ls hl => ?_)
      refine lv_iconst (v := 1) C.1 C.2.1 dL_readBeside_13 (by decide) ?_
      exact w_ret C hlk hP hS hr e dL_readBeside_14
    rw [if_neg q0] at h
    rw [wx] at h
    by_cases q1 : "java/lang/IllegalStateException" = E
    · subst q1
      rw [if_pos rfl] at h
      have e := Option.some.inj h
      refine vx_catch (own := RL) (name := "java/lang/IllegalStateException") (E := "java/lang/IllegalStateException") C.2.2.2.1 [⟨0, 9, 12, 15⟩] ⟨0, 9, 15, 17⟩ [] (by rw [htab]; rfl) (List.forall_mem_cons.mpr ⟨Or.inr ⟨by decide, "java/lang/IllegalArgumentException", C.2.2.2.2 _ wd_665, hN _ (List.mem_of_getElem? (i := 3) rfl)⟩, (fun _ h => absurd h List.not_mem_nil)⟩) (by decide) (by decide) (C.2.2.2.2 _ wd_666) (hX.nw wd_767) hce hcv hcl ?_
      refine lv_astore_n (lv' := [(3, .ref q), (0, .ref a0), (1, .int a1), (2, .ref a2)]) C.1 C.2.1 dL_readBeside_15 rfl hl (by decide) rfl (fun ls hl => ?_)
      refine lv_iconst (v := 2) C.1 C.2.1 dL_readBeside_16 (by decide) ?_
      exact w_ret C hlk hP hS hr e dL_readBeside_17
    rw [if_neg q1] at h
    cases h
  · cases hz1 : z.1 with
    | inl E9 => rw [hz1] at ho; cases ho
    | inr u =>
      rw [hz1] at ho
      have ev : v0 = some (.int u) := (Sum.inr.inj ho).symm
      subst ev
      replace h := hV u hz1
      show W p l e rmL_readBeside s m args below meth c H locs _ _ (vx_MQ below (QW G Sh r.2 (some (.int r.1))) NX args s rmL_readBeside.cells rmL_readBeside.slots (AA G)) (F0 m (4 + 3) ls (.int u :: [.int 0, .ref a2]))
      refine lv_i2l C.1 C.2.1 dL_readBeside_7 rfl ?_
      refine r_sL C hK hP hS dL_readBeside_8 h (fun M9 H locs h hP hS => ?_)
      refine lv_goto (tgt := 18) C.1 C.2.1 dL_readBeside_9 (by decide) ?_
      refine lv_iconst (v := 0) C.1 C.2.1 dL_readBeside_18 (by decide) ?_
      have e := Option.some.inj h
      exact w_ret C hlk hP hS.1 hr e dL_readBeside_19
theorem dL_type_0 : decode cL_type 0 = .ok (.aload_n 2, 1) := by decide +kernel
theorem dL_type_1 : decode cL_type 1 = .ok (.iconst 0, 1) := by decide +kernel
theorem dL_type_2 : decode cL_type 2 = .ok (.aload_n 0, 1) := by decide +kernel
theorem dL_type_3 : decode cL_type 3 = .ok (.iload_n 1, 1) := by decide +kernel
theorem dL_type_4 : decode cL_type 4 = .ok (.invokevirtual 86, 3) := by decide +kernel
theorem dL_type_7 : decode cL_type 7 = .ok (.i2l, 1) := by decide +kernel
theorem dL_type_8 : decode cL_type 8 = .ok (.lastore, 1) := by decide +kernel
theorem dL_type_9 : decode cL_type 9 = .ok (.goto 9, 3) := by decide +kernel
theorem dL_type_12 : decode cL_type 12 = .ok (.astore_n 3, 1) := by decide +kernel
theorem dL_type_13 : decode cL_type 13 = .ok (.iconst 1, 1) := by decide +kernel
theorem dL_type_14 : decode cL_type 14 = .ok (.ireturn, 1) := by decide +kernel
theorem dL_type_15 : decode cL_type 15 = .ok (.astore_n 3, 1) := by decide +kernel
theorem dL_type_16 : decode cL_type 16 = .ok (.iconst 2, 1) := by decide +kernel
theorem dL_type_17 : decode cL_type 17 = .ok (.ireturn, 1) := by decide +kernel
theorem dL_type_18 : decode cL_type 18 = .ok (.iconst 0, 1) := by decide +kernel
theorem dL_type_19 : decode cL_type 19 = .ok (.ireturn, 1) := by decide +kernel
abbrev rmL_type : Room := { frames := 7, cells := 1, slots := 6, locals := 121 }
noncomputable def fL_type (n : Nat) (Sh : Sp) (M : Mm) (a0 : Nat) (a1 : Int32) (a2 : Nat) : Option (Int32 × Mm) :=
  chk (Sh a0 = some (.inl 6)) <|
  wb (fX6_type n Sh M a0 a1) [("java/lang/IllegalArgumentException", 1), ("java/lang/IllegalStateException", 2)] fun v M1 =>
  sL Sh M1 a2 0 (Int32.toInt64 v) fun M2 => some (0, M2)
set_option maxRecDepth 100000 in
set_option maxHeartbeats 4000000 in
theorem kL_type {l : Launch} {G : Gt} {n : Nat} {Sh : Sp} {M : Mm} {a0 : Nat} {a1 : Int32} {a2 : Nat} (hfl : l.stackTraces = false) {r : Int32 × Mm} (h : fL_type n Sh M a0 a1 a2 = some r) : CtW l yL_type cL_type 4 [(0, 9, 12, 15), (0, 9, 15, 17)] rmL_type G Sh M [.ref a0, .int a1, .ref a2] (some (.int r.1)) r.2 := by
  refine CtW.of (by decide) (Nat.le_of_ble_eq_true rfl) ?_
  intro p e s m args below meth c ls C hK hX hN hP hS hb hlk hr htab hl
  replace hl : lv_has ls 4 [(0, .ref a0), (1, .int a1), (2, .ref a2)] := hl
  unfold fL_type at h
  obtain ⟨hT, h⟩ := chk_some h
  obtain ⟨z, hz, hE, hV⟩ := wb_some h
  refine lv_aload_n C.1 C.2.1 dL_type_0 rfl (lv_at hl 2 rfl) ?_
  refine lv_iconst (v := 0) C.1 C.2.1 dL_type_1 (by decide) ?_
  refine lv_aload_n C.1 C.2.1 dL_type_2 rfl (lv_at hl 0 rfl) ?_
  refine lv_iload_n C.1 C.2.1 dL_type_3 rfl (lv_at hl 1 rfl) ?_
  refine r_VX C hK hX hb hP hS hl.1 (kX6_type hT hfl hz) hT cl_6 wd_1123 mo_X6_type wd_1124 wd_1125 ⟨Nat.le_of_ble_eq_true rfl, Nat.le_of_ble_eq_true rfl⟩ ⟨Nat.le_of_ble_eq_true rfl, Nat.le_of_ble_eq_true rfl⟩ rfl (rest := [.int 0, .ref a2]) rfl (Nat.le_of_ble_eq_true rfl) dL_type_4 (fun E ce q H locs ho hP hS hce hcv hcl => ?_) (fun v0 H locs ho hP hS => ?_)
  · have hq : z.1 = .inl E := by
      cases hz1 : z.1 with
      | inl E9 => rw [hz1] at ho; exact congrArg Sum.inl (Sum.inl.inj ho)
      | inr u => rw [hz1] at ho; cases ho
    replace h := hE E hq
    rw [wx] at h
    by_cases q0 : "java/lang/IllegalArgumentException" = E
    · subst q0
      rw [if_pos rfl] at h
      have e := Option.some.inj h
      refine vx_catch (own := RL) (name := "java/lang/IllegalArgumentException") (E := "java/lang/IllegalArgumentException") C.2.2.2.1 [] ⟨0, 9, 12, 15⟩ [⟨0, 9, 15, 17⟩] (by rw [htab]; rfl) (fun _ h => absurd h List.not_mem_nil) (by decide) (by decide) (C.2.2.2.2 _ wd_665) (hX.nw wd_747) hce hcv hcl ?_
      refine lv_astore_n (lv' := [(3, .ref q), (0, .ref a0), (1, .int a1), (2, .ref a2)]) C.1 C.2.1 dL_type_12 rfl hl (by decide) rfl (fun ls hl => ?_)
      refine lv_iconst (v := 1) C.1 C.2.1 dL_type_13 (by decide) ?_
      exact w_ret C hlk hP hS hr e dL_type_14
    rw [if_neg q0] at h
    rw [wx] at h
    by_cases q1 : "java/lang/IllegalStateException" = E
    · subst q1
      rw [if_pos rfl] at h
      have e := Option.some.inj h
      refine vx_catch (own := RL) (name := "java/lang/IllegalStateException") (E := "java/lang/IllegalStateException") C.2.2.2.1 [⟨0, 9, 12, 15⟩] ⟨0, 9, 15, 17⟩ [] (by rw [htab]; rfl) (List.forall_mem_cons.mpr ⟨Or.inr ⟨by decide, "java/lang/IllegalArgumentException", C.2.2.2.2 _ wd_665, hN _ (List.mem_of_getElem? (i := 3) rfl)⟩, (fun _ h => absurd h List.not_mem_nil)⟩) (by decide) (by decide) (C.2.2.2.2 _ wd_666) (hX.nw wd_767) hce hcv hcl ?_
      refine lv_astore_n (lv' := [(3, .ref q), (0, .ref a0), (1, .int a1), (2, .ref a2)]) C.1 C.2.1 dL_type_15 rfl hl (by decide) rfl (fun ls hl => ?_)
      refine lv_iconst (v := 2) C.1 C.2.1 dL_type_16 (by decide) ?_
      exact w_ret C hlk hP hS hr e dL_type_17
    rw [if_neg q1] at h
    cases h
  · cases hz1 : z.1 with
    | inl E9 => rw [hz1] at ho; cases ho
    | inr u =>
      rw [hz1] at ho
      have ev : v0 = some (.int u) := (Sum.inr.inj ho).symm
      subst ev
      replace h := hV u hz1
      show W p l e rmL_type s m args below meth c H locs _ _ (vx_MQ below (QW G Sh r.2 (some (.int r.1))) NX args s rmL_type.cells rmL_type.slots (AA G)) (F0 m (4 + 3) ls (.int u :: [.int 0, .ref a2]))
      refine lv_i2l C.1 C.2.1 dL_type_7 rfl ?_
      refine r_sL C hK hP hS dL_type_8 h (fun M9 H locs h hP hS => ?_)
      refine lv_goto (tgt := 18) C.1 C.2.1 dL_type_9 (by decide) ?_
      refine lv_iconst (v := 0) C.1 C.2.1 dL_type_18 (by decide) ?_
      have e := Option.some.inj h
      exact w_ret C hlk hP hS.1 hr e dL_type_19
theorem dL_undo_0 : decode cL_undo 0 = .ok (.aload_n 1, 1) := by decide +kernel
theorem dL_undo_1 : decode cL_undo 1 = .ok (.iconst 0, 1) := by decide +kernel
theorem dL_undo_2 : decode cL_undo 2 = .ok (.aload_n 0, 1) := by decide +kernel
theorem dL_undo_3 : decode cL_undo 3 = .ok (.invokevirtual 89, 3) := by decide +kernel
theorem dL_undo_6 : decode cL_undo 6 = .ok (.i2l, 1) := by decide +kernel
theorem dL_undo_7 : decode cL_undo 7 = .ok (.lastore, 1) := by decide +kernel
theorem dL_undo_8 : decode cL_undo 8 = .ok (.goto 6, 3) := by decide +kernel
theorem dL_undo_11 : decode cL_undo 11 = .ok (.astore_n 2, 1) := by decide +kernel
theorem dL_undo_12 : decode cL_undo 12 = .ok (.iconst 1, 1) := by decide +kernel
theorem dL_undo_13 : decode cL_undo 13 = .ok (.ireturn, 1) := by decide +kernel
theorem dL_undo_14 : decode cL_undo 14 = .ok (.iconst 0, 1) := by decide +kernel
theorem dL_undo_15 : decode cL_undo 15 = .ok (.ireturn, 1) := by decide +kernel
abbrev rmL_undo : Room := { frames := 7, cells := 1, slots := 6, locals := 124 }
noncomputable def fL_undo (n : Nat) (Sh : Sp) (M : Mm) (a0 : Nat) (a1 : Nat) : Option (Int32 × Mm) :=
  chk (Sh a0 = some (.inl 6)) <|
  wb (fX6_undo n Sh M a0) [("java/lang/IllegalStateException", 1)] fun v M1 =>
  sL Sh M1 a1 0 (Int32.toInt64 v) fun M2 => some (0, M2)
set_option maxRecDepth 100000 in
set_option maxHeartbeats 4000000 in
theorem kL_undo {l : Launch} {G : Gt} {n : Nat} {Sh : Sp} {M : Mm} {a0 : Nat} {a1 : Nat} (hfl : l.stackTraces = false) {r : Int32 × Mm} (h : fL_undo n Sh M a0 a1 = some r) : CtW l yL_undo cL_undo 3 [(0, 8, 11, 17)] rmL_undo G Sh M [.ref a0, .ref a1] (some (.int r.1)) r.2 := by
  refine CtW.of (by decide) (Nat.le_of_ble_eq_true rfl) ?_
  intro p e s m args below meth c ls C hK hX hN hP hS hb hlk hr htab hl
  replace hl : lv_has ls 3 [(0, .ref a0), (1, .ref a1)] := hl
  unfold fL_undo at h
  obtain ⟨hT, h⟩ := chk_some h
  obtain ⟨z, hz, hE, hV⟩ := wb_some h
  refine lv_aload_n C.1 C.2.1 dL_undo_0 rfl (lv_at hl 1 rfl) ?_
  refine lv_iconst (v := 0) C.1 C.2.1 dL_undo_1 (by decide) ?_
  refine lv_aload_n C.1 C.2.1 dL_undo_2 rfl (lv_at hl 0 rfl) ?_
  refine r_VX C hK hX hb hP hS hl.1 (kX6_undo hT hfl hz) hT cl_6 wd_1133 mo_X6_undo wd_1134 wd_1135 ⟨Nat.le_of_ble_eq_true rfl, Nat.le_of_ble_eq_true rfl⟩ ⟨Nat.le_of_ble_eq_true rfl, Nat.le_of_ble_eq_true rfl⟩ rfl (rest := [.int 0, .ref a1]) rfl (Nat.le_of_ble_eq_true rfl) dL_undo_3 (fun E ce q H locs ho hP hS hce hcv hcl => ?_) (fun v0 H locs ho hP hS => ?_)
  · have hq : z.1 = .inl E := by
      cases hz1 : z.1 with
      | inl E9 => rw [hz1] at ho; exact congrArg Sum.inl (Sum.inl.inj ho)
      | inr u => rw [hz1] at ho; cases ho
    replace h := hE E hq
    rw [wx] at h
    by_cases q0 : "java/lang/IllegalStateException" = E
    · subst q0
      rw [if_pos rfl] at h
      have e := Option.some.inj h
      refine vx_catch (own := RL) (name := "java/lang/IllegalStateException") (E := "java/lang/IllegalStateException") C.2.2.2.1 [] ⟨0, 8, 11, 17⟩ [] (by rw [htab]; rfl) (fun _ h => absurd h List.not_mem_nil) (by decide) (by decide) (C.2.2.2.2 _ wd_666) (hX.nw wd_767) hce hcv hcl ?_
      refine lv_astore_n (lv' := [(2, .ref q), (0, .ref a0), (1, .ref a1)]) C.1 C.2.1 dL_undo_11 rfl hl (by decide) rfl (fun ls hl => ?_)
      refine lv_iconst (v := 1) C.1 C.2.1 dL_undo_12 (by decide) ?_
      exact w_ret C hlk hP hS hr e dL_undo_13
    rw [if_neg q0] at h
    cases h
  · cases hz1 : z.1 with
    | inl E9 => rw [hz1] at ho; cases ho
    | inr u =>
      rw [hz1] at ho
      have ev : v0 = some (.int u) := (Sum.inr.inj ho).symm
      subst ev
      replace h := hV u hz1
      show W p l e rmL_undo s m args below meth c H locs _ _ (vx_MQ below (QW G Sh r.2 (some (.int r.1))) NX args s rmL_undo.cells rmL_undo.slots (AA G)) (F0 m (3 + 3) ls (.int u :: [.int 0, .ref a1]))
      refine lv_i2l C.1 C.2.1 dL_undo_6 rfl ?_
      refine r_sL C hK hP hS dL_undo_7 h (fun M9 H locs h hP hS => ?_)
      refine lv_goto (tgt := 14) C.1 C.2.1 dL_undo_8 (by decide) ?_
      refine lv_iconst (v := 0) C.1 C.2.1 dL_undo_14 (by decide) ?_
      have e := Option.some.inj h
      exact w_ret C hlk hP hS.1 hr e dL_undo_15
