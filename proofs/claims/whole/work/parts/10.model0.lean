theorem dX7_thrown_0 : decode cX7_thrown 0 = .ok (.aload_n 0, 1) := by decide +kernel
theorem dX7_thrown_1 : decode cX7_thrown 1 = .ok (.getfield 29, 3) := by decide +kernel
theorem dX7_thrown_4 : decode cX7_thrown 4 = .ok (.ireturn, 1) := by decide +kernel
abbrev rmX7_thrown : Room := { frames := 1, cells := 0, slots := 0, locals := 40 }
noncomputable def fX7_thrown (n : Nat) (Sh : Sp) (M : Mm) (a0 : Nat) : Option Int32 :=
  tI M a0 5 fun x1 =>
  some x1
set_option maxRecDepth 100000 in
set_option maxHeartbeats 4000000 in
theorem kX7_thrown {l : Launch} {G : Gt} {n : Nat} {Sh : Sp} {M : Mm} {a0 : Nat} (hT : Sh a0 = some (.inl 7)) {r : Int32} (h : fX7_thrown n Sh M a0 = some r) : Ct l yX7_thrown cX7_thrown 1 (some .int) rmX7_thrown G Sh M [.ref a0] (some (.int r)) M := by
  refine Ct.of (by decide) (Nat.le_of_ble_eq_true rfl) ?_
  intro p e s m args below meth c ls C hK hX hP hS hb hlk hr hl
  replace hl : lv_has ls 1 [(0, .ref a0)] := hl
  unfold fX7_thrown at h
  refine lv_aload_n C.1 C.2.1 dX7_thrown_0 rfl (lv_at hl 0 rfl) ?_
  refine r_tI C hK hP hT cl_7 (k := 5) (by decide) wd_1149 rfl dX7_thrown_1 h (fun x1 h => ?_)
  have e := Option.some.inj h
  exact q_i C hlk hP hS hr (by rw [← e]) rfl dX7_thrown_4
theorem dX7_in_0 : decode cX7_in 0 = .ok (.iload_n 0, 1) := by decide +kernel
theorem dX7_in_1 : decode cX7_in 1 = .ok (.iload_n 1, 1) := by decide +kernel
theorem dX7_in_2 : decode cX7_in 2 = .ok (.if_icmp .lt 12, 3) := by decide +kernel
theorem dX7_in_5 : decode cX7_in 5 = .ok (.iload_n 0, 1) := by decide +kernel
theorem dX7_in_6 : decode cX7_in 6 = .ok (.iload_n 2, 1) := by decide +kernel
theorem dX7_in_7 : decode cX7_in 7 = .ok (.if_icmp .gt 7, 3) := by decide +kernel
theorem dX7_in_10 : decode cX7_in 10 = .ok (.iconst 1, 1) := by decide +kernel
theorem dX7_in_11 : decode cX7_in 11 = .ok (.goto 4, 3) := by decide +kernel
theorem dX7_in_14 : decode cX7_in 14 = .ok (.iconst 0, 1) := by decide +kernel
theorem dX7_in_15 : decode cX7_in 15 = .ok (.ireturn, 1) := by decide +kernel
abbrev rmX7_in : Room := { frames := 1, cells := 0, slots := 0, locals := 40 }
noncomputable def fX7_in (n : Nat) (Sh : Sp) (M : Mm) (a0 : Int32) (a1 : Int32) (a2 : Int32) : Option Int32 :=
  if a0 < a1 then
    some 0
  else
    if a0 ≤ a2 then
      some 1
    else
      some 0
set_option maxRecDepth 100000 in
set_option maxHeartbeats 4000000 in
theorem kX7_in {l : Launch} {G : Gt} {n : Nat} {Sh : Sp} {M : Mm} {a0 : Int32} {a1 : Int32} {a2 : Int32} {r : Int32} (h : fX7_in n Sh M a0 a1 a2 = some r) : Ct l yX7_in cX7_in 3 (some .boolean) rmX7_in G Sh M [.int a0, .int a1, .int a2] (some (.int r)) M := by
  refine Ct.of (by decide) (Nat.le_of_ble_eq_true rfl) ?_
  intro p e s m args below meth c ls C hK hX hP hS hb hlk hr hl
  replace hl : lv_has ls 3 [(0, .int a0), (1, .int a1), (2, .int a2)] := hl
  unfold fX7_in at h
  refine lv_iload_n C.1 C.2.1 dX7_in_0 rfl (lv_at hl 0 rfl) ?_
  refine lv_iload_n C.1 C.2.1 dX7_in_1 rfl (lv_at hl 1 rfl) ?_
  refine b_ilt (tgt := 14) C dX7_in_2 (by decide) h (fun h => ?_) (fun h => ?_)
  · refine lv_iconst (v := 0) C.1 C.2.1 dX7_in_14 (by decide) ?_
    have e := Option.some.inj h
    exact q_z C hlk hP hS hr (by decide) (by rw [← e]) rfl dX7_in_15
  · refine lv_iload_n C.1 C.2.1 dX7_in_5 rfl (lv_at hl 0 rfl) ?_
    refine lv_iload_n C.1 C.2.1 dX7_in_6 rfl (lv_at hl 2 rfl) ?_
    refine b_igt (tgt := 14) C dX7_in_7 (by decide) h (fun h => ?_) (fun h => ?_)
    · refine lv_iconst (v := 1) C.1 C.2.1 dX7_in_10 (by decide) ?_
      refine lv_goto (tgt := 15) C.1 C.2.1 dX7_in_11 (by decide) ?_
      have e := Option.some.inj h
      exact q_z C hlk hP hS hr (by decide) (by rw [← e]) rfl dX7_in_15
    · refine lv_iconst (v := 0) C.1 C.2.1 dX7_in_14 (by decide) ?_
      have e := Option.some.inj h
      exact q_z C hlk hP hS hr (by decide) (by rw [← e]) rfl dX7_in_15
theorem dX7_keep_0 : decode cX7_keep 0 = .ok (.aload_n 0, 1) := by decide +kernel
theorem dX7_keep_1 : decode cX7_keep 1 = .ok (.getfield 33, 3) := by decide +kernel
theorem dX7_keep_4 : decode cX7_keep 4 = .ok (.iconst 5, 1) := by decide +kernel
theorem dX7_keep_5 : decode cX7_keep 5 = .ok (.if_icmp .ne 44, 3) := by decide +kernel
theorem dX7_keep_8 : decode cX7_keep 8 = .ok (.iconst 0, 1) := by decide +kernel
theorem dX7_keep_9 : decode cX7_keep 9 = .ok (.istore_n 1, 1) := by decide +kernel
theorem dX7_keep_10 : decode cX7_keep 10 = .ok (.iload_n 1, 1) := by decide +kernel
theorem dX7_keep_11 : decode cX7_keep 11 = .ok (.sipush 13620, 3) := by decide +kernel
theorem dX7_keep_14 : decode cX7_keep 14 = .ok (.if_icmp .ge 25, 3) := by decide +kernel
theorem dX7_keep_17 : decode cX7_keep 17 = .ok (.aload_n 0, 1) := by decide +kernel
theorem dX7_keep_18 : decode cX7_keep 18 = .ok (.getfield 13, 3) := by decide +kernel
theorem dX7_keep_21 : decode cX7_keep 21 = .ok (.iload_n 1, 1) := by decide +kernel
theorem dX7_keep_22 : decode cX7_keep 22 = .ok (.aload_n 0, 1) := by decide +kernel
theorem dX7_keep_23 : decode cX7_keep 23 = .ok (.getfield 13, 3) := by decide +kernel
theorem dX7_keep_26 : decode cX7_keep 26 = .ok (.iload_n 1, 1) := by decide +kernel
theorem dX7_keep_27 : decode cX7_keep 27 = .ok (.sipush 3405, 3) := by decide +kernel
theorem dX7_keep_30 : decode cX7_keep 30 = .ok (.iadd, 1) := by decide +kernel
theorem dX7_keep_31 : decode cX7_keep 31 = .ok (.iaload, 1) := by decide +kernel
theorem dX7_keep_32 : decode cX7_keep 32 = .ok (.iastore, 1) := by decide +kernel
theorem dX7_keep_33 : decode cX7_keep 33 = .ok (.iinc 1 1, 3) := by decide +kernel
theorem dX7_keep_36 : decode cX7_keep 36 = .ok (.goto (-26), 3) := by decide +kernel
theorem dX7_keep_39 : decode cX7_keep 39 = .ok (.aload_n 0, 1) := by decide +kernel
theorem dX7_keep_40 : decode cX7_keep 40 = .ok (.dup, 1) := by decide +kernel
theorem dX7_keep_41 : decode cX7_keep 41 = .ok (.getfield 33, 3) := by decide +kernel
theorem dX7_keep_44 : decode cX7_keep 44 = .ok (.iconst 1, 1) := by decide +kernel
theorem dX7_keep_45 : decode cX7_keep 45 = .ok (.isub, 1) := by decide +kernel
theorem dX7_keep_46 : decode cX7_keep 46 = .ok (.putfield 33, 3) := by decide +kernel
theorem dX7_keep_49 : decode cX7_keep 49 = .ok (.iconst 0, 1) := by decide +kernel
theorem dX7_keep_50 : decode cX7_keep 50 = .ok (.istore_n 1, 1) := by decide +kernel
theorem dX7_keep_51 : decode cX7_keep 51 = .ok (.iload_n 1, 1) := by decide +kernel
theorem dX7_keep_52 : decode cX7_keep 52 = .ok (.sipush 3405, 3) := by decide +kernel
theorem dX7_keep_55 : decode cX7_keep 55 = .ok (.if_icmp .ge 30, 3) := by decide +kernel
theorem dX7_keep_58 : decode cX7_keep 58 = .ok (.aload_n 0, 1) := by decide +kernel
theorem dX7_keep_59 : decode cX7_keep 59 = .ok (.getfield 13, 3) := by decide +kernel
theorem dX7_keep_62 : decode cX7_keep 62 = .ok (.sipush 3405, 3) := by decide +kernel
theorem dX7_keep_65 : decode cX7_keep 65 = .ok (.aload_n 0, 1) := by decide +kernel
theorem dX7_keep_66 : decode cX7_keep 66 = .ok (.getfield 33, 3) := by decide +kernel
theorem dX7_keep_69 : decode cX7_keep 69 = .ok (.imul, 1) := by decide +kernel
theorem dX7_keep_70 : decode cX7_keep 70 = .ok (.iload_n 1, 1) := by decide +kernel
theorem dX7_keep_71 : decode cX7_keep 71 = .ok (.iadd, 1) := by decide +kernel
theorem dX7_keep_72 : decode cX7_keep 72 = .ok (.aload_n 0, 1) := by decide +kernel
theorem dX7_keep_73 : decode cX7_keep 73 = .ok (.getfield 7, 3) := by decide +kernel
theorem dX7_keep_76 : decode cX7_keep 76 = .ok (.iload_n 1, 1) := by decide +kernel
theorem dX7_keep_77 : decode cX7_keep 77 = .ok (.iaload, 1) := by decide +kernel
theorem dX7_keep_78 : decode cX7_keep 78 = .ok (.iastore, 1) := by decide +kernel
theorem dX7_keep_79 : decode cX7_keep 79 = .ok (.iinc 1 1, 3) := by decide +kernel
theorem dX7_keep_82 : decode cX7_keep 82 = .ok (.goto (-31), 3) := by decide +kernel
theorem dX7_keep_85 : decode cX7_keep 85 = .ok (.aload_n 0, 1) := by decide +kernel
theorem dX7_keep_86 : decode cX7_keep 86 = .ok (.dup, 1) := by decide +kernel
theorem dX7_keep_87 : decode cX7_keep 87 = .ok (.getfield 33, 3) := by decide +kernel
theorem dX7_keep_90 : decode cX7_keep 90 = .ok (.iconst 1, 1) := by decide +kernel
theorem dX7_keep_91 : decode cX7_keep 91 = .ok (.iadd, 1) := by decide +kernel
theorem dX7_keep_92 : decode cX7_keep 92 = .ok (.putfield 33, 3) := by decide +kernel
theorem dX7_keep_95 : decode cX7_keep 95 = .ok (.return_, 1) := by decide +kernel
abbrev rmX7_keep : Room := { frames := 1, cells := 0, slots := 0, locals := 40 }
noncomputable def fX7_keep_85 (n : Nat) (Sh : Sp) (a0 : Nat) (M : Mm) : Option Mm :=
  tI M a0 2 fun x1 =>
  qI M a0 2 (x1 + 1) fun M2 =>
  some M2
noncomputable def fX7_keep_51b (n : Nat) (Sh : Sp) (a0 : Nat) (M : Mm) (v1 : Int32) : Option ((Int32 × Mm) ⊕ Mm) :=
  if v1 < 3405 then
    tF M a0 1 fun b3 =>
    tI M a0 2 fun x4 =>
    tF M a0 0 fun b5 =>
    aI Sh M b5 0 v1 fun x6 =>
    sI Sh M b3 ((3405 * x4) + v1) x6 fun M7 =>
    some (Sum.inl ((v1 + 1), M7))
  else
    (fX7_keep_85 n Sh a0 M).map Sum.inr
noncomputable def fX7_keep_51 (n : Nat) (Sh : Sp) (a0 : Nat) (M : Mm) (v1 : Int32) : Option Mm :=
  iter n (fun s => fX7_keep_51b n Sh a0 s.2 s.1) (v1, M)
noncomputable def fX7_keep_49 (n : Nat) (Sh : Sp) (a0 : Nat) (M : Mm) : Option Mm :=
  fX7_keep_51 n Sh a0 M 0
noncomputable def fX7_keep_39 (n : Nat) (Sh : Sp) (a0 : Nat) (M : Mm) : Option Mm :=
  tI M a0 2 fun x8 =>
  qI M a0 2 (x8 - 1) fun M9 =>
  fX7_keep_49 n Sh a0 M9
noncomputable def fX7_keep_10b (n : Nat) (Sh : Sp) (a0 : Nat) (M : Mm) (v1 : Int32) : Option ((Int32 × Mm) ⊕ Mm) :=
  if v1 < 13620 then
    tF M a0 1 fun b10 =>
    tF M a0 1 fun b11 =>
    aI Sh M b11 0 (v1 + 3405) fun x12 =>
    sI Sh M b10 v1 x12 fun M13 =>
    some (Sum.inl ((v1 + 1), M13))
  else
    (fX7_keep_39 n Sh a0 M).map Sum.inr
noncomputable def fX7_keep_10 (n : Nat) (Sh : Sp) (a0 : Nat) (M : Mm) (v1 : Int32) : Option Mm :=
  iter n (fun s => fX7_keep_10b n Sh a0 s.2 s.1) (v1, M)
noncomputable def fX7_keep (n : Nat) (Sh : Sp) (M : Mm) (a0 : Nat) : Option Mm :=
  tI M a0 2 fun x14 =>
  if x14 = 5 then
    fX7_keep_10 n Sh a0 M 0
  else
    fX7_keep_49 n Sh a0 M
set_option maxRecDepth 100000 in
set_option maxHeartbeats 4000000 in
theorem kX7_keep {l : Launch} {G : Gt} {n : Nat} {Sh : Sp} {M : Mm} {a0 : Nat} (hT : Sh a0 = some (.inl 7)) {r : Mm} (h : fX7_keep n Sh M a0 = some r) : Ct l yX7_keep cX7_keep 2 none rmX7_keep G Sh M [.ref a0] none r := by
  refine Ct.of (by decide) (Nat.le_of_ble_eq_true rfl) ?_
  intro p e s m args below meth c ls C hK hX hP hS hb hlk hr hl
  replace hl : lv_has ls 2 [(0, .ref a0)] := hl
  have J85 : ∀ (M : Mm) (H : Heap) (locs : List Loc) (ls : Array Slot), HM G Sh M H → SS G s s.heap.size H locs → lv_has ls 2 [(0, .ref a0)] → fX7_keep_85 n Sh a0 M = some r → W p l e rmX7_keep s m args below meth c H locs 0 0 (MQ below (QG G Sh r none) args s rmX7_keep.cells rmX7_keep.slots (AA G)) (F0 m 85 ls []) := by
    intro M H locs ls hP hS hl h
    unfold fX7_keep_85 at h
    refine lv_aload_n C.1 C.2.1 dX7_keep_85 rfl (lv_at hl 0 rfl) ?_
    refine lv_dup C.1 C.2.1 dX7_keep_86 rfl ?_
    refine r_tI C hK hP hT cl_7 (k := 2) (by decide) wd_1146 rfl dX7_keep_87 h (fun x1 h => ?_)
    refine lv_iconst (v := 1) C.1 C.2.1 dX7_keep_90 (by decide) ?_
    refine lv_iadd C.1 C.2.1 dX7_keep_91 ?_
    refine r_qI C hK hP hS hT cl_7 (k := 2) (by decide) wd_1146 rfl rfl (tyX7_ok 2 (by decide)) dX7_keep_92 h (fun M2 H locs h hP hS => ?_)
    have e := Option.some.inj h
    exact q_v C hlk hP hS hr rfl e.symm dX7_keep_95
  have J51 : ∀ (k : Nat) (v1 : Int32) (M : Mm) (H : Heap) (locs : List Loc) (ls : Array Slot), HM G Sh M H → SS G s s.heap.size H locs → lv_has ls 2 [(0, .ref a0), (1, .int v1)] → iter k (fun s => fX7_keep_51b n Sh a0 s.2 s.1) (v1, M) = some r → W p l e rmX7_keep s m args below meth c H locs 0 0 (MQ below (QG G Sh r none) args s rmX7_keep.cells rmX7_keep.slots (AA G)) (F0 m 51 ls []) := by
    intro k
    induction k with
    | zero => intro v1 M H locs ls hP hS hl h; exact (iter_0 h).elim
    | succ k ih1 =>
      intro v1 M H locs ls hP hS hl h
      obtain ⟨z1, h, hz1⟩ := iter_some h
      replace h : fX7_keep_51b n Sh a0 M v1 = some z1 := h
      unfold fX7_keep_51b at h
      refine lv_iload_n C.1 C.2.1 dX7_keep_51 rfl (lv_at hl 1 rfl) ?_
      refine lv_sipush (v := 3405) C.1 C.2.1 dX7_keep_52 (by decide) ?_
      refine b_ige (tgt := 85) C dX7_keep_55 (by decide) h (fun h => ?_) (fun h => ?_)
      · refine lv_aload_n C.1 C.2.1 dX7_keep_58 rfl (lv_at hl 0 rfl) ?_
        refine r_tF C hK hP hT cl_7 (k := 1) (by decide) wd_1145 rfl dX7_keep_59 h (fun b3 h => ?_)
        refine lv_sipush (v := 3405) C.1 C.2.1 dX7_keep_62 (by decide) ?_
        refine lv_aload_n C.1 C.2.1 dX7_keep_65 rfl (lv_at hl 0 rfl) ?_
        refine r_tI C hK hP hT cl_7 (k := 2) (by decide) wd_1146 rfl dX7_keep_66 h (fun x4 h => ?_)
        refine lv_imul C.1 C.2.1 dX7_keep_69 ?_
        refine lv_iload_n C.1 C.2.1 dX7_keep_70 rfl (lv_at hl 1 rfl) ?_
        refine lv_iadd C.1 C.2.1 dX7_keep_71 ?_
        refine lv_aload_n C.1 C.2.1 dX7_keep_72 rfl (lv_at hl 0 rfl) ?_
        refine r_tF C hK hP hT cl_7 (k := 0) (by decide) wd_1144 rfl dX7_keep_73 h (fun b5 h => ?_)
        refine lv_iload_n C.1 C.2.1 dX7_keep_76 rfl (lv_at hl 1 rfl) ?_
        refine r_aI C hK hP dX7_keep_77 h (fun x6 h => ?_)
        refine r_sI C hK hP hS dX7_keep_78 h (fun M7 H locs h hP hS => ?_)
        refine lv_iinc (v := (v1 + 1)) (lv' := [(1, .int (v1 + 1)), (0, .ref a0)]) C.1 C.2.1 dX7_keep_79 hl (k := 1) rfl rfl (by decide) rfl (fun ls hl => ?_)
        refine lv_goto (tgt := 51) C.1 C.2.1 dX7_keep_82 (by decide) ?_
        have e := Option.some.inj h
        rw [← e] at hz1
        exact ih1 ((v1 + 1)) M7 _ _ _ hP hS (lv_sub hl [1, 0] rfl) (itK_inl hz1)
      · obtain ⟨w1, h, e⟩ := mS h
        rw [← e] at hz1
        replace e := itK_inr hz1
        rw [e] at h
        exact J85 (M) _ _ _ hP hS (lv_sub hl [0] rfl) h
  have J49 : ∀ (M : Mm) (H : Heap) (locs : List Loc) (ls : Array Slot), HM G Sh M H → SS G s s.heap.size H locs → lv_has ls 2 [(0, .ref a0)] → fX7_keep_49 n Sh a0 M = some r → W p l e rmX7_keep s m args below meth c H locs 0 0 (MQ below (QG G Sh r none) args s rmX7_keep.cells rmX7_keep.slots (AA G)) (F0 m 49 ls []) := by
    intro M H locs ls hP hS hl h
    unfold fX7_keep_49 at h
    refine lv_iconst (v := 0) C.1 C.2.1 dX7_keep_49 (by decide) ?_
    refine lv_istore_n (lv' := [(1, .int 0), (0, .ref a0)]) C.1 C.2.1 dX7_keep_50 rfl hl (by decide) rfl (fun ls hl => ?_)
    exact J51  n (0) M _ _ _ hP hS (lv_sub hl [1, 0] rfl) h
  have J39 : ∀ (M : Mm) (H : Heap) (locs : List Loc) (ls : Array Slot), HM G Sh M H → SS G s s.heap.size H locs → lv_has ls 2 [(0, .ref a0)] → fX7_keep_39 n Sh a0 M = some r → W p l e rmX7_keep s m args below meth c H locs 0 0 (MQ below (QG G Sh r none) args s rmX7_keep.cells rmX7_keep.slots (AA G)) (F0 m 39 ls []) := by
    intro M H locs ls hP hS hl h
    unfold fX7_keep_39 at h
    refine lv_aload_n C.1 C.2.1 dX7_keep_39 rfl (lv_at hl 0 rfl) ?_
    refine lv_dup C.1 C.2.1 dX7_keep_40 rfl ?_
    refine r_tI C hK hP hT cl_7 (k := 2) (by decide) wd_1146 rfl dX7_keep_41 h (fun x8 h => ?_)
    refine lv_iconst (v := 1) C.1 C.2.1 dX7_keep_44 (by decide) ?_
    refine lv_isub C.1 C.2.1 dX7_keep_45 ?_
    refine r_qI C hK hP hS hT cl_7 (k := 2) (by decide) wd_1146 rfl rfl (tyX7_ok 2 (by decide)) dX7_keep_46 h (fun M9 H locs h hP hS => ?_)
    exact J49 (M9) _ _ _ hP hS (lv_sub hl [0] rfl) h
  have J10 : ∀ (k : Nat) (v1 : Int32) (M : Mm) (H : Heap) (locs : List Loc) (ls : Array Slot), HM G Sh M H → SS G s s.heap.size H locs → lv_has ls 2 [(0, .ref a0), (1, .int v1)] → iter k (fun s => fX7_keep_10b n Sh a0 s.2 s.1) (v1, M) = some r → W p l e rmX7_keep s m args below meth c H locs 0 0 (MQ below (QG G Sh r none) args s rmX7_keep.cells rmX7_keep.slots (AA G)) (F0 m 10 ls []) := by
    intro k
    induction k with
    | zero => intro v1 M H locs ls hP hS hl h; exact (iter_0 h).elim
    | succ k ih1 =>
      intro v1 M H locs ls hP hS hl h
      obtain ⟨z1, h, hz1⟩ := iter_some h
      replace h : fX7_keep_10b n Sh a0 M v1 = some z1 := h
      unfold fX7_keep_10b at h
      refine lv_iload_n C.1 C.2.1 dX7_keep_10 rfl (lv_at hl 1 rfl) ?_
      refine lv_sipush (v := 13620) C.1 C.2.1 dX7_keep_11 (by decide) ?_
      refine b_ige (tgt := 39) C dX7_keep_14 (by decide) h (fun h => ?_) (fun h => ?_)
      · refine lv_aload_n C.1 C.2.1 dX7_keep_17 rfl (lv_at hl 0 rfl) ?_
        refine r_tF C hK hP hT cl_7 (k := 1) (by decide) wd_1145 rfl dX7_keep_18 h (fun b10 h => ?_)
        refine lv_iload_n C.1 C.2.1 dX7_keep_21 rfl (lv_at hl 1 rfl) ?_
        refine lv_aload_n C.1 C.2.1 dX7_keep_22 rfl (lv_at hl 0 rfl) ?_
        refine r_tF C hK hP hT cl_7 (k := 1) (by decide) wd_1145 rfl dX7_keep_23 h (fun b11 h => ?_)
        refine lv_iload_n C.1 C.2.1 dX7_keep_26 rfl (lv_at hl 1 rfl) ?_
        refine lv_sipush (v := 3405) C.1 C.2.1 dX7_keep_27 (by decide) ?_
        refine lv_iadd C.1 C.2.1 dX7_keep_30 ?_
        refine r_aI C hK hP dX7_keep_31 h (fun x12 h => ?_)
        refine r_sI C hK hP hS dX7_keep_32 h (fun M13 H locs h hP hS => ?_)
        refine lv_iinc (v := (v1 + 1)) (lv' := [(1, .int (v1 + 1)), (0, .ref a0)]) C.1 C.2.1 dX7_keep_33 hl (k := 1) rfl rfl (by decide) rfl (fun ls hl => ?_)
        refine lv_goto (tgt := 10) C.1 C.2.1 dX7_keep_36 (by decide) ?_
        have e := Option.some.inj h
        rw [← e] at hz1
        exact ih1 ((v1 + 1)) M13 _ _ _ hP hS (lv_sub hl [1, 0] rfl) (itK_inl hz1)
      · obtain ⟨w1, h, e⟩ := mS h
        rw [← e] at hz1
        replace e := itK_inr hz1
        rw [e] at h
        exact J39 (M) _ _ _ hP hS (lv_sub hl [0] rfl) h
  unfold fX7_keep at h
  refine lv_aload_n C.1 C.2.1 dX7_keep_0 rfl (lv_at hl 0 rfl) ?_
  refine r_tI C hK hP hT cl_7 (k := 2) (by decide) wd_1146 rfl dX7_keep_1 h (fun x14 h => ?_)
  refine lv_iconst (v := 5) C.1 C.2.1 dX7_keep_4 (by decide) ?_
  refine b_ine (tgt := 49) C dX7_keep_5 (by decide) h (fun h => ?_) (fun h => ?_)
  · refine lv_iconst (v := 0) C.1 C.2.1 dX7_keep_8 (by decide) ?_
    refine lv_istore_n (lv' := [(1, .int 0), (0, .ref a0)]) C.1 C.2.1 dX7_keep_9 rfl hl (by decide) rfl (fun ls hl => ?_)
    exact J10  n (0) M _ _ _ hP hS (lv_sub hl [1, 0] rfl) h
  · exact J49 (M) _ _ _ hP hS (lv_sub hl [0] rfl) h
theorem dX7_of_0 : decode cX7_of 0 = .ok (.aload_n 0, 1) := by decide +kernel
theorem dX7_of_1 : decode cX7_of 1 = .ok (.getfield 7, 3) := by decide +kernel
theorem dX7_of_4 : decode cX7_of 4 = .ok (.bipush 30, 2) := by decide +kernel
theorem dX7_of_6 : decode cX7_of 6 = .ok (.iload_n 1, 1) := by decide +kernel
theorem dX7_of_7 : decode cX7_of 7 = .ok (.imul, 1) := by decide +kernel
theorem dX7_of_8 : decode cX7_of 8 = .ok (.iload_n 2, 1) := by decide +kernel
theorem dX7_of_9 : decode cX7_of 9 = .ok (.iadd, 1) := by decide +kernel
theorem dX7_of_10 : decode cX7_of 10 = .ok (.iaload, 1) := by decide +kernel
theorem dX7_of_11 : decode cX7_of 11 = .ok (.ireturn, 1) := by decide +kernel
abbrev rmX7_of : Room := { frames := 1, cells := 0, slots := 0, locals := 40 }
noncomputable def fX7_of (n : Nat) (Sh : Sp) (M : Mm) (a0 : Nat) (a1 : Int32) (a2 : Int32) : Option Int32 :=
  tF M a0 0 fun b1 =>
  aI Sh M b1 0 ((30 * a1) + a2) fun x2 =>
  some x2
set_option maxRecDepth 100000 in
set_option maxHeartbeats 4000000 in
theorem kX7_of {l : Launch} {G : Gt} {n : Nat} {Sh : Sp} {M : Mm} {a0 : Nat} {a1 : Int32} {a2 : Int32} (hT : Sh a0 = some (.inl 7)) {r : Int32} (h : fX7_of n Sh M a0 a1 a2 = some r) : Ct l yX7_of cX7_of 3 (some .int) rmX7_of G Sh M [.ref a0, .int a1, .int a2] (some (.int r)) M := by
  refine Ct.of (by decide) (Nat.le_of_ble_eq_true rfl) ?_
  intro p e s m args below meth c ls C hK hX hP hS hb hlk hr hl
  replace hl : lv_has ls 3 [(0, .ref a0), (1, .int a1), (2, .int a2)] := hl
  unfold fX7_of at h
  refine lv_aload_n C.1 C.2.1 dX7_of_0 rfl (lv_at hl 0 rfl) ?_
  refine r_tF C hK hP hT cl_7 (k := 0) (by decide) wd_1144 rfl dX7_of_1 h (fun b1 h => ?_)
  refine lv_bipush (v := 30) C.1 C.2.1 dX7_of_4 (by decide) ?_
  refine lv_iload_n C.1 C.2.1 dX7_of_6 rfl (lv_at hl 1 rfl) ?_
  refine lv_imul C.1 C.2.1 dX7_of_7 ?_
  refine lv_iload_n C.1 C.2.1 dX7_of_8 rfl (lv_at hl 2 rfl) ?_
  refine lv_iadd C.1 C.2.1 dX7_of_9 ?_
  refine r_aI C hK hP dX7_of_10 h (fun x2 h => ?_)
  have e := Option.some.inj h
  exact q_i C hlk hP hS hr (by rw [← e]) rfl dX7_of_11
theorem dX7_put_0 : decode cX7_put 0 = .ok (.aload_n 0, 1) := by decide +kernel
theorem dX7_put_1 : decode cX7_put 1 = .ok (.getfield 7, 3) := by decide +kernel
theorem dX7_put_4 : decode cX7_put 4 = .ok (.bipush 30, 2) := by decide +kernel
theorem dX7_put_6 : decode cX7_put 6 = .ok (.iload_n 1, 1) := by decide +kernel
theorem dX7_put_7 : decode cX7_put 7 = .ok (.imul, 1) := by decide +kernel
theorem dX7_put_8 : decode cX7_put 8 = .ok (.iload_n 2, 1) := by decide +kernel
theorem dX7_put_9 : decode cX7_put 9 = .ok (.iadd, 1) := by decide +kernel
theorem dX7_put_10 : decode cX7_put 10 = .ok (.iload_n 3, 1) := by decide +kernel
theorem dX7_put_11 : decode cX7_put 11 = .ok (.iastore, 1) := by decide +kernel
theorem dX7_put_12 : decode cX7_put 12 = .ok (.return_, 1) := by decide +kernel
abbrev rmX7_put : Room := { frames := 1, cells := 0, slots := 0, locals := 40 }
noncomputable def fX7_put (n : Nat) (Sh : Sp) (M : Mm) (a0 : Nat) (a1 : Int32) (a2 : Int32) (a3 : Int32) : Option Mm :=
  tF M a0 0 fun b1 =>
  sI Sh M b1 ((30 * a1) + a2) a3 fun M2 =>
  some M2
set_option maxRecDepth 100000 in
set_option maxHeartbeats 4000000 in
theorem kX7_put {l : Launch} {G : Gt} {n : Nat} {Sh : Sp} {M : Mm} {a0 : Nat} {a1 : Int32} {a2 : Int32} {a3 : Int32} (hT : Sh a0 = some (.inl 7)) {r : Mm} (h : fX7_put n Sh M a0 a1 a2 a3 = some r) : Ct l yX7_put cX7_put 4 none rmX7_put G Sh M [.ref a0, .int a1, .int a2, .int a3] none r := by
  refine Ct.of (by decide) (Nat.le_of_ble_eq_true rfl) ?_
  intro p e s m args below meth c ls C hK hX hP hS hb hlk hr hl
  replace hl : lv_has ls 4 [(0, .ref a0), (1, .int a1), (2, .int a2), (3, .int a3)] := hl
  unfold fX7_put at h
  refine lv_aload_n C.1 C.2.1 dX7_put_0 rfl (lv_at hl 0 rfl) ?_
  refine r_tF C hK hP hT cl_7 (k := 0) (by decide) wd_1144 rfl dX7_put_1 h (fun b1 h => ?_)
  refine lv_bipush (v := 30) C.1 C.2.1 dX7_put_4 (by decide) ?_
  refine lv_iload_n C.1 C.2.1 dX7_put_6 rfl (lv_at hl 1 rfl) ?_
  refine lv_imul C.1 C.2.1 dX7_put_7 ?_
  refine lv_iload_n C.1 C.2.1 dX7_put_8 rfl (lv_at hl 2 rfl) ?_
  refine lv_iadd C.1 C.2.1 dX7_put_9 ?_
  refine lv_iload_n C.1 C.2.1 dX7_put_10 rfl (lv_at hl 3 rfl) ?_
  refine r_sI C hK hP hS dX7_put_11 h (fun M2 H locs h hP hS => ?_)
  have e := Option.some.inj h
  exact q_v C hlk hP hS hr rfl e.symm dX7_put_12
theorem dX7_isNode_0 : decode cX7_isNode 0 = .ok (.iload_n 1, 1) := by decide +kernel
theorem dX7_isNode_1 : decode cX7_isNode 1 = .ok (.iconst 0, 1) := by decide +kernel
theorem dX7_isNode_2 : decode cX7_isNode 2 = .ok (.bipush 23, 2) := by decide +kernel
theorem dX7_isNode_4 : decode cX7_isNode 4 = .ok (.invokestatic 36, 3) := by decide +kernel
theorem dX7_isNode_7 : decode cX7_isNode 7 = .ok (.ifCond .eq 17, 3) := by decide +kernel
theorem dX7_isNode_10 : decode cX7_isNode 10 = .ok (.aload_n 0, 1) := by decide +kernel
theorem dX7_isNode_11 : decode cX7_isNode 11 = .ok (.iload_n 1, 1) := by decide +kernel
theorem dX7_isNode_12 : decode cX7_isNode 12 = .ok (.iconst 0, 1) := by decide +kernel
theorem dX7_isNode_13 : decode cX7_isNode 13 = .ok (.invokevirtual 40, 3) := by decide +kernel
theorem dX7_isNode_16 : decode cX7_isNode 16 = .ok (.iconst 1, 1) := by decide +kernel
theorem dX7_isNode_17 : decode cX7_isNode 17 = .ok (.if_icmp .ne 7, 3) := by decide +kernel
theorem dX7_isNode_20 : decode cX7_isNode 20 = .ok (.iconst 1, 1) := by decide +kernel
theorem dX7_isNode_21 : decode cX7_isNode 21 = .ok (.goto 4, 3) := by decide +kernel
theorem dX7_isNode_24 : decode cX7_isNode 24 = .ok (.iconst 0, 1) := by decide +kernel
theorem dX7_isNode_25 : decode cX7_isNode 25 = .ok (.ireturn, 1) := by decide +kernel
abbrev rmX7_isNode : Room := { frames := 2, cells := 0, slots := 0, locals := 62 }
noncomputable def fX7_isNode (n : Nat) (Sh : Sp) (M : Mm) (a0 : Nat) (a1 : Int32) : Option Int32 :=
  (fX7_in n Sh M a1 0 23).bind fun r1 =>
  if r1 = 0 then
    some 0
  else
    (fX7_of n Sh M a0 a1 0).bind fun r2 =>
    if r2 = 1 then
      some 1
    else
      some 0
set_option maxRecDepth 100000 in
set_option maxHeartbeats 4000000 in
theorem kX7_isNode {l : Launch} {G : Gt} {n : Nat} {Sh : Sp} {M : Mm} {a0 : Nat} {a1 : Int32} (hT : Sh a0 = some (.inl 7)) {r : Int32} (h : fX7_isNode n Sh M a0 a1 = some r) : Ct l yX7_isNode cX7_isNode 2 (some .boolean) rmX7_isNode G Sh M [.ref a0, .int a1] (some (.int r)) M := by
  refine Ct.of (by decide) (Nat.le_of_ble_eq_true rfl) ?_
  intro p e s m args below meth c ls C hK hX hP hS hb hlk hr hl
  replace hl : lv_has ls 2 [(0, .ref a0), (1, .int a1)] := hl
  unfold fX7_isNode at h
  refine lv_iload_n C.1 C.2.1 dX7_isNode_0 rfl (lv_at hl 1 rfl) ?_
  refine lv_iconst (v := 0) C.1 C.2.1 dX7_isNode_1 (by decide) ?_
  refine lv_bipush (v := 23) C.1 C.2.1 dX7_isNode_2 (by decide) ?_
  obtain ⟨r1, hc, h⟩ := bS h
  refine r_S1 C hK hX hb hP hS hl.1 (kX7_in hc) wd_1194 mo_X7_in wd_1195 ⟨Nat.le_of_ble_eq_true rfl, Nat.le_of_ble_eq_true rfl⟩ ⟨Nat.le_of_ble_eq_true rfl, Nat.le_of_ble_eq_true rfl⟩ rfl (rest := []) rfl (Nat.le_of_ble_eq_true rfl) dX7_isNode_4 (fun H locs hP hS => ?_)
  refine b_eq (tgt := 24) C dX7_isNode_7 (by decide) h (fun h => ?_) (fun h => ?_)
  · refine lv_iconst (v := 0) C.1 C.2.1 dX7_isNode_24 (by decide) ?_
    have e := Option.some.inj h
    exact q_z C hlk hP hS hr (by decide) (by rw [← e]) rfl dX7_isNode_25
  · refine lv_aload_n C.1 C.2.1 dX7_isNode_10 rfl (lv_at hl 0 rfl) ?_
    refine lv_iload_n C.1 C.2.1 dX7_isNode_11 rfl (lv_at hl 1 rfl) ?_
    refine lv_iconst (v := 0) C.1 C.2.1 dX7_isNode_12 (by decide) ?_
    obtain ⟨r2, hc, h⟩ := bS h
    refine r_V1 C hK hX hb hP hS hl.1 (kX7_of (hT) hc) hT cl_7 wd_1197 mo_X7_of wd_1199 wd_24 ⟨Nat.le_of_ble_eq_true rfl, Nat.le_of_ble_eq_true rfl⟩ ⟨Nat.le_of_ble_eq_true rfl, Nat.le_of_ble_eq_true rfl⟩ rfl (rest := []) rfl (Nat.le_of_ble_eq_true rfl) dX7_isNode_13 (fun H locs hP hS => ?_)
    refine lv_iconst (v := 1) C.1 C.2.1 dX7_isNode_16 (by decide) ?_
    refine b_ine (tgt := 24) C dX7_isNode_17 (by decide) h (fun h => ?_) (fun h => ?_)
    · refine lv_iconst (v := 1) C.1 C.2.1 dX7_isNode_20 (by decide) ?_
      refine lv_goto (tgt := 25) C.1 C.2.1 dX7_isNode_21 (by decide) ?_
      have e := Option.some.inj h
      exact q_z C hlk hP hS hr (by decide) (by rw [← e]) rfl dX7_isNode_25
    · refine lv_iconst (v := 0) C.1 C.2.1 dX7_isNode_24 (by decide) ?_
      have e := Option.some.inj h
      exact q_z C hlk hP hS hr (by decide) (by rw [← e]) rfl dX7_isNode_25
theorem dX7_childMany_0 : decode cX7_childMany 0 = .ok (.iconst 0, 1) := by decide +kernel
theorem dX7_childMany_1 : decode cX7_childMany 1 = .ok (.istore_n 2, 1) := by decide +kernel
theorem dX7_childMany_2 : decode cX7_childMany 2 = .ok (.iconst 0, 1) := by decide +kernel
theorem dX7_childMany_3 : decode cX7_childMany 3 = .ok (.istore_n 3, 1) := by decide +kernel
theorem dX7_childMany_4 : decode cX7_childMany 4 = .ok (.iload_n 3, 1) := by decide +kernel
theorem dX7_childMany_5 : decode cX7_childMany 5 = .ok (.bipush 24, 2) := by decide +kernel
theorem dX7_childMany_7 : decode cX7_childMany 7 = .ok (.if_icmp .ge 37, 3) := by decide +kernel
theorem dX7_childMany_10 : decode cX7_childMany 10 = .ok (.iload_n 2, 1) := by decide +kernel
theorem dX7_childMany_11 : decode cX7_childMany 11 = .ok (.aload_n 0, 1) := by decide +kernel
theorem dX7_childMany_12 : decode cX7_childMany 12 = .ok (.iload_n 3, 1) := by decide +kernel
theorem dX7_childMany_13 : decode cX7_childMany 13 = .ok (.iconst 0, 1) := by decide +kernel
theorem dX7_childMany_14 : decode cX7_childMany 14 = .ok (.invokevirtual 40, 3) := by decide +kernel
theorem dX7_childMany_17 : decode cX7_childMany 17 = .ok (.iconst 1, 1) := by decide +kernel
theorem dX7_childMany_18 : decode cX7_childMany 18 = .ok (.if_icmp .ne 17, 3) := by decide +kernel
theorem dX7_childMany_21 : decode cX7_childMany 21 = .ok (.aload_n 0, 1) := by decide +kernel
theorem dX7_childMany_22 : decode cX7_childMany 22 = .ok (.iload_n 3, 1) := by decide +kernel
theorem dX7_childMany_23 : decode cX7_childMany 23 = .ok (.iconst 1, 1) := by decide +kernel
theorem dX7_childMany_24 : decode cX7_childMany 24 = .ok (.invokevirtual 40, 3) := by decide +kernel
theorem dX7_childMany_27 : decode cX7_childMany 27 = .ok (.iload_n 1, 1) := by decide +kernel
theorem dX7_childMany_28 : decode cX7_childMany 28 = .ok (.if_icmp .ne 7, 3) := by decide +kernel
theorem dX7_childMany_31 : decode cX7_childMany 31 = .ok (.iconst 1, 1) := by decide +kernel
theorem dX7_childMany_32 : decode cX7_childMany 32 = .ok (.goto 4, 3) := by decide +kernel
theorem dX7_childMany_35 : decode cX7_childMany 35 = .ok (.iconst 0, 1) := by decide +kernel
theorem dX7_childMany_36 : decode cX7_childMany 36 = .ok (.iadd, 1) := by decide +kernel
theorem dX7_childMany_37 : decode cX7_childMany 37 = .ok (.istore_n 2, 1) := by decide +kernel
theorem dX7_childMany_38 : decode cX7_childMany 38 = .ok (.iinc 3 1, 3) := by decide +kernel
theorem dX7_childMany_41 : decode cX7_childMany 41 = .ok (.goto (-37), 3) := by decide +kernel
theorem dX7_childMany_44 : decode cX7_childMany 44 = .ok (.iload_n 2, 1) := by decide +kernel
theorem dX7_childMany_45 : decode cX7_childMany 45 = .ok (.ireturn, 1) := by decide +kernel
abbrev rmX7_childMany : Room := { frames := 2, cells := 0, slots := 0, locals := 62 }
noncomputable def fX7_childMany_36 (n : Nat) (Sh : Sp) (M : Mm) (a0 : Nat) (a1 : Int32) (v3 : Int32) (t0 : Int32) (t1 : Int32) : Option ((Int32 × Int32) ⊕ Int32) :=
  some (Sum.inl ((t0 + t1), (v3 + 1)))
noncomputable def fX7_childMany_35 (n : Nat) (Sh : Sp) (M : Mm) (a0 : Nat) (a1 : Int32) (v3 : Int32) (t0 : Int32) : Option ((Int32 × Int32) ⊕ Int32) :=
  fX7_childMany_36 n Sh M a0 a1 v3 t0 0
noncomputable def fX7_childMany_4b (n : Nat) (Sh : Sp) (M : Mm) (a0 : Nat) (a1 : Int32) (v2 : Int32) (v3 : Int32) : Option ((Int32 × Int32) ⊕ Int32) :=
  if v3 < 24 then
    (fX7_of n Sh M a0 v3 0).bind fun r1 =>
    if r1 = 1 then
      (fX7_of n Sh M a0 v3 1).bind fun r2 =>
      if r2 = a1 then
        fX7_childMany_36 n Sh M a0 a1 v3 v2 1
      else
        fX7_childMany_35 n Sh M a0 a1 v3 v2
    else
      fX7_childMany_35 n Sh M a0 a1 v3 v2
  else
    some (Sum.inr v2)
noncomputable def fX7_childMany_4 (n : Nat) (Sh : Sp) (M : Mm) (a0 : Nat) (a1 : Int32) (v2 : Int32) (v3 : Int32) : Option Int32 :=
  iter n (fun s => fX7_childMany_4b n Sh M a0 a1 s.1 s.2) (v2, v3)
noncomputable def fX7_childMany (n : Nat) (Sh : Sp) (M : Mm) (a0 : Nat) (a1 : Int32) : Option Int32 :=
  fX7_childMany_4 n Sh M a0 a1 0 0
set_option maxRecDepth 100000 in
set_option maxHeartbeats 4000000 in
theorem kX7_childMany {l : Launch} {G : Gt} {n : Nat} {Sh : Sp} {M : Mm} {a0 : Nat} {a1 : Int32} (hT : Sh a0 = some (.inl 7)) {r : Int32} (h : fX7_childMany n Sh M a0 a1 = some r) : Ct l yX7_childMany cX7_childMany 4 (some .int) rmX7_childMany G Sh M [.ref a0, .int a1] (some (.int r)) M := by
  refine Ct.of (by decide) (Nat.le_of_ble_eq_true rfl) ?_
  intro p e s m args below meth c ls C hK hX hP hS hb hlk hr hl
  replace hl : lv_has ls 4 [(0, .ref a0), (1, .int a1)] := hl
  have J4 : ∀ (k : Nat) (v2 : Int32) (v3 : Int32) (H : Heap) (locs : List Loc) (ls : Array Slot), HM G Sh M H → SS G s s.heap.size H locs → lv_has ls 4 [(0, .ref a0), (1, .int a1), (2, .int v2), (3, .int v3)] → iter k (fun s => fX7_childMany_4b n Sh M a0 a1 s.1 s.2) (v2, v3) = some r → W p l e rmX7_childMany s m args below meth c H locs 0 0 (MQ below (QG G Sh M (some (.int r))) args s rmX7_childMany.cells rmX7_childMany.slots (AA G)) (F0 m 4 ls []) := by
    intro k
    induction k with
    | zero => intro v2 v3 H locs ls hP hS hl h; exact (iter_0 h).elim
    | succ k ih1 =>
      intro v2 v3 H locs ls hP hS hl h
      obtain ⟨z1, h, hz1⟩ := iter_some h
      replace h : fX7_childMany_4b n Sh M a0 a1 v2 v3 = some z1 := h
      have J36 : ∀ (v3 : Int32) (t0 : Int32) (t1 : Int32) (H : Heap) (locs : List Loc) (ls : Array Slot), HM G Sh M H → SS G s s.heap.size H locs → lv_has ls 4 [(0, .ref a0), (1, .int a1), (3, .int v3)] → fX7_childMany_36 n Sh M a0 a1 v3 t0 t1 = some z1 → W p l e rmX7_childMany s m args below meth c H locs 0 0 (MQ below (QG G Sh M (some (.int r))) args s rmX7_childMany.cells rmX7_childMany.slots (AA G)) (F0 m 36 ls [.int t1, .int t0]) := by
        intro v3 t0 t1 H locs ls hP hS hl h
        unfold fX7_childMany_36 at h
        refine lv_iadd C.1 C.2.1 dX7_childMany_36 ?_
        refine lv_istore_n (lv' := [(2, .int (t0 + t1)), (0, .ref a0), (1, .int a1), (3, .int v3)]) C.1 C.2.1 dX7_childMany_37 rfl hl (by decide) rfl (fun ls hl => ?_)
        refine lv_iinc (v := (v3 + 1)) (lv' := [(3, .int (v3 + 1)), (2, .int (t0 + t1)), (0, .ref a0), (1, .int a1)]) C.1 C.2.1 dX7_childMany_38 hl (k := 3) rfl rfl (by decide) rfl (fun ls hl => ?_)
        refine lv_goto (tgt := 4) C.1 C.2.1 dX7_childMany_41 (by decide) ?_
        have e := Option.some.inj h
        rw [← e] at hz1
        exact ih1 ((t0 + t1)) ((v3 + 1)) _ _ _ hP hS (lv_sub hl [2, 3, 1, 0] rfl) (itK_inl hz1)
      have J35 : ∀ (v3 : Int32) (t0 : Int32) (H : Heap) (locs : List Loc) (ls : Array Slot), HM G Sh M H → SS G s s.heap.size H locs → lv_has ls 4 [(0, .ref a0), (1, .int a1), (3, .int v3)] → fX7_childMany_35 n Sh M a0 a1 v3 t0 = some z1 → W p l e rmX7_childMany s m args below meth c H locs 0 0 (MQ below (QG G Sh M (some (.int r))) args s rmX7_childMany.cells rmX7_childMany.slots (AA G)) (F0 m 35 ls [.int t0]) := by
        intro v3 t0 H locs ls hP hS hl h
        unfold fX7_childMany_35 at h
        refine lv_iconst (v := 0) C.1 C.2.1 dX7_childMany_35 (by decide) ?_
        exact J36 (v3) (t0) (0) _ _ _ hP hS (lv_sub hl [0, 1, 2] rfl) h
      unfold fX7_childMany_4b at h
      refine lv_iload_n C.1 C.2.1 dX7_childMany_4 rfl (lv_at hl 3 rfl) ?_
      refine lv_bipush (v := 24) C.1 C.2.1 dX7_childMany_5 (by decide) ?_
      refine b_ige (tgt := 44) C dX7_childMany_7 (by decide) h (fun h => ?_) (fun h => ?_)
      · refine lv_iload_n C.1 C.2.1 dX7_childMany_10 rfl (lv_at hl 2 rfl) ?_
        refine lv_aload_n C.1 C.2.1 dX7_childMany_11 rfl (lv_at hl 0 rfl) ?_
        refine lv_iload_n C.1 C.2.1 dX7_childMany_12 rfl (lv_at hl 3 rfl) ?_
        refine lv_iconst (v := 0) C.1 C.2.1 dX7_childMany_13 (by decide) ?_
        obtain ⟨r1, hc, h⟩ := bS h
        refine r_V1 C hK hX hb hP hS hl.1 (kX7_of (hT) hc) hT cl_7 wd_1197 mo_X7_of wd_1199 wd_24 ⟨Nat.le_of_ble_eq_true rfl, Nat.le_of_ble_eq_true rfl⟩ ⟨Nat.le_of_ble_eq_true rfl, Nat.le_of_ble_eq_true rfl⟩ rfl (rest := [.int v2]) rfl (Nat.le_of_ble_eq_true rfl) dX7_childMany_14 (fun H locs hP hS => ?_)
        refine lv_iconst (v := 1) C.1 C.2.1 dX7_childMany_17 (by decide) ?_
        refine b_ine (tgt := 35) C dX7_childMany_18 (by decide) h (fun h => ?_) (fun h => ?_)
        · refine lv_aload_n C.1 C.2.1 dX7_childMany_21 rfl (lv_at hl 0 rfl) ?_
          refine lv_iload_n C.1 C.2.1 dX7_childMany_22 rfl (lv_at hl 3 rfl) ?_
          refine lv_iconst (v := 1) C.1 C.2.1 dX7_childMany_23 (by decide) ?_
          obtain ⟨r2, hc, h⟩ := bS h
          refine r_V1 C hK hX hb hP hS hl.1 (kX7_of (hT) hc) hT cl_7 wd_1197 mo_X7_of wd_1199 wd_24 ⟨Nat.le_of_ble_eq_true rfl, Nat.le_of_ble_eq_true rfl⟩ ⟨Nat.le_of_ble_eq_true rfl, Nat.le_of_ble_eq_true rfl⟩ rfl (rest := [.int v2]) rfl (Nat.le_of_ble_eq_true rfl) dX7_childMany_24 (fun H locs hP hS => ?_)
          refine lv_iload_n C.1 C.2.1 dX7_childMany_27 rfl (lv_at hl 1 rfl) ?_
          refine b_ine (tgt := 35) C dX7_childMany_28 (by decide) h (fun h => ?_) (fun h => ?_)
          · refine lv_iconst (v := 1) C.1 C.2.1 dX7_childMany_31 (by decide) ?_
            refine lv_goto (tgt := 36) C.1 C.2.1 dX7_childMany_32 (by decide) ?_
            exact J36 (v3) (v2) (1) _ _ _ hP hS (lv_sub hl [0, 1, 3] rfl) h
          · exact J35 (v3) (v2) _ _ _ hP hS (lv_sub hl [0, 1, 3] rfl) h
        · exact J35 (v3) (v2) _ _ _ hP hS (lv_sub hl [0, 1, 3] rfl) h
      · refine lv_iload_n C.1 C.2.1 dX7_childMany_44 rfl (lv_at hl 2 rfl) ?_
        have e := Option.some.inj h
        rw [← e] at hz1
        replace e := itK_inr hz1
        exact q_i C hlk hP hS hr (by rw [← e]) rfl dX7_childMany_45
  unfold fX7_childMany at h
  refine lv_iconst (v := 0) C.1 C.2.1 dX7_childMany_0 (by decide) ?_
  refine lv_istore_n (lv' := [(2, .int 0), (0, .ref a0), (1, .int a1)]) C.1 C.2.1 dX7_childMany_1 rfl hl (by decide) rfl (fun ls hl => ?_)
  refine lv_iconst (v := 0) C.1 C.2.1 dX7_childMany_2 (by decide) ?_
  refine lv_istore_n (lv' := [(3, .int 0), (2, .int 0), (0, .ref a0), (1, .int a1)]) C.1 C.2.1 dX7_childMany_3 rfl hl (by decide) rfl (fun ls hl => ?_)
  exact J4  n (0) (0) _ _ _ hP hS (lv_sub hl [2, 3, 1, 0] rfl) h
theorem dX7_childAt_0 : decode cX7_childAt 0 = .ok (.iconst 0, 1) := by decide +kernel
theorem dX7_childAt_1 : decode cX7_childAt 1 = .ok (.istore_n 3, 1) := by decide +kernel
theorem dX7_childAt_2 : decode cX7_childAt 2 = .ok (.iload_n 3, 1) := by decide +kernel
theorem dX7_childAt_3 : decode cX7_childAt 3 = .ok (.bipush 24, 2) := by decide +kernel
theorem dX7_childAt_5 : decode cX7_childAt 5 = .ok (.if_icmp .ge 41, 3) := by decide +kernel
theorem dX7_childAt_8 : decode cX7_childAt 8 = .ok (.aload_n 0, 1) := by decide +kernel
theorem dX7_childAt_9 : decode cX7_childAt 9 = .ok (.iload_n 3, 1) := by decide +kernel
theorem dX7_childAt_10 : decode cX7_childAt 10 = .ok (.iconst 0, 1) := by decide +kernel
theorem dX7_childAt_11 : decode cX7_childAt 11 = .ok (.invokevirtual 40, 3) := by decide +kernel
theorem dX7_childAt_14 : decode cX7_childAt 14 = .ok (.iconst 1, 1) := by decide +kernel
theorem dX7_childAt_15 : decode cX7_childAt 15 = .ok (.if_icmp .ne 25, 3) := by decide +kernel
theorem dX7_childAt_18 : decode cX7_childAt 18 = .ok (.aload_n 0, 1) := by decide +kernel
theorem dX7_childAt_19 : decode cX7_childAt 19 = .ok (.iload_n 3, 1) := by decide +kernel
theorem dX7_childAt_20 : decode cX7_childAt 20 = .ok (.iconst 1, 1) := by decide +kernel
theorem dX7_childAt_21 : decode cX7_childAt 21 = .ok (.invokevirtual 40, 3) := by decide +kernel
theorem dX7_childAt_24 : decode cX7_childAt 24 = .ok (.iload_n 1, 1) := by decide +kernel
theorem dX7_childAt_25 : decode cX7_childAt 25 = .ok (.if_icmp .ne 15, 3) := by decide +kernel
theorem dX7_childAt_28 : decode cX7_childAt 28 = .ok (.aload_n 0, 1) := by decide +kernel
theorem dX7_childAt_29 : decode cX7_childAt 29 = .ok (.iload_n 3, 1) := by decide +kernel
theorem dX7_childAt_30 : decode cX7_childAt 30 = .ok (.iconst 2, 1) := by decide +kernel
theorem dX7_childAt_31 : decode cX7_childAt 31 = .ok (.invokevirtual 40, 3) := by decide +kernel
theorem dX7_childAt_34 : decode cX7_childAt 34 = .ok (.iload_n 2, 1) := by decide +kernel
theorem dX7_childAt_35 : decode cX7_childAt 35 = .ok (.if_icmp .ne 5, 3) := by decide +kernel
theorem dX7_childAt_38 : decode cX7_childAt 38 = .ok (.iload_n 3, 1) := by decide +kernel
theorem dX7_childAt_39 : decode cX7_childAt 39 = .ok (.ireturn, 1) := by decide +kernel
theorem dX7_childAt_40 : decode cX7_childAt 40 = .ok (.iinc 3 1, 3) := by decide +kernel
theorem dX7_childAt_43 : decode cX7_childAt 43 = .ok (.goto (-41), 3) := by decide +kernel
theorem dX7_childAt_46 : decode cX7_childAt 46 = .ok (.iconst (-1), 1) := by decide +kernel
theorem dX7_childAt_47 : decode cX7_childAt 47 = .ok (.ireturn, 1) := by decide +kernel
abbrev rmX7_childAt : Room := { frames := 2, cells := 0, slots := 0, locals := 62 }
noncomputable def fX7_childAt_40 (n : Nat) (Sh : Sp) (M : Mm) (a0 : Nat) (a1 : Int32) (a2 : Int32) (v3 : Int32) : Option (Int32 ⊕ Int32) :=
  some (Sum.inl (v3 + 1))
noncomputable def fX7_childAt_2b (n : Nat) (Sh : Sp) (M : Mm) (a0 : Nat) (a1 : Int32) (a2 : Int32) (v3 : Int32) : Option (Int32 ⊕ Int32) :=
  if v3 < 24 then
    (fX7_of n Sh M a0 v3 0).bind fun r1 =>
    if r1 = 1 then
      (fX7_of n Sh M a0 v3 1).bind fun r2 =>
      if r2 = a1 then
        (fX7_of n Sh M a0 v3 2).bind fun r3 =>
        if r3 = a2 then
          some (Sum.inr v3)
        else
          fX7_childAt_40 n Sh M a0 a1 a2 v3
      else
        fX7_childAt_40 n Sh M a0 a1 a2 v3
    else
      fX7_childAt_40 n Sh M a0 a1 a2 v3
  else
    some (Sum.inr (-1))
noncomputable def fX7_childAt_2 (n : Nat) (Sh : Sp) (M : Mm) (a0 : Nat) (a1 : Int32) (a2 : Int32) (v3 : Int32) : Option Int32 :=
  iter n (fun s => fX7_childAt_2b n Sh M a0 a1 a2 s) v3
noncomputable def fX7_childAt (n : Nat) (Sh : Sp) (M : Mm) (a0 : Nat) (a1 : Int32) (a2 : Int32) : Option Int32 :=
  fX7_childAt_2 n Sh M a0 a1 a2 0
set_option maxRecDepth 100000 in
set_option maxHeartbeats 4000000 in
theorem kX7_childAt {l : Launch} {G : Gt} {n : Nat} {Sh : Sp} {M : Mm} {a0 : Nat} {a1 : Int32} {a2 : Int32} (hT : Sh a0 = some (.inl 7)) {r : Int32} (h : fX7_childAt n Sh M a0 a1 a2 = some r) : Ct l yX7_childAt cX7_childAt 4 (some .int) rmX7_childAt G Sh M [.ref a0, .int a1, .int a2] (some (.int r)) M := by
  refine Ct.of (by decide) (Nat.le_of_ble_eq_true rfl) ?_
  intro p e s m args below meth c ls C hK hX hP hS hb hlk hr hl
  replace hl : lv_has ls 4 [(0, .ref a0), (1, .int a1), (2, .int a2)] := hl
  have J2 : ∀ (k : Nat) (v3 : Int32) (H : Heap) (locs : List Loc) (ls : Array Slot), HM G Sh M H → SS G s s.heap.size H locs → lv_has ls 4 [(0, .ref a0), (1, .int a1), (2, .int a2), (3, .int v3)] → iter k (fun s => fX7_childAt_2b n Sh M a0 a1 a2 s) v3 = some r → W p l e rmX7_childAt s m args below meth c H locs 0 0 (MQ below (QG G Sh M (some (.int r))) args s rmX7_childAt.cells rmX7_childAt.slots (AA G)) (F0 m 2 ls []) := by
    intro k
    induction k with
    | zero => intro v3 H locs ls hP hS hl h; exact (iter_0 h).elim
    | succ k ih1 =>
      intro v3 H locs ls hP hS hl h
      obtain ⟨z1, h, hz1⟩ := iter_some h
      replace h : fX7_childAt_2b n Sh M a0 a1 a2 v3 = some z1 := h
      have J40 : ∀ (v3 : Int32) (H : Heap) (locs : List Loc) (ls : Array Slot), HM G Sh M H → SS G s s.heap.size H locs → lv_has ls 4 [(0, .ref a0), (1, .int a1), (2, .int a2), (3, .int v3)] → fX7_childAt_40 n Sh M a0 a1 a2 v3 = some z1 → W p l e rmX7_childAt s m args below meth c H locs 0 0 (MQ below (QG G Sh M (some (.int r))) args s rmX7_childAt.cells rmX7_childAt.slots (AA G)) (F0 m 40 ls []) := by
        intro v3 H locs ls hP hS hl h
        unfold fX7_childAt_40 at h
        refine lv_iinc (v := (v3 + 1)) (lv' := [(3, .int (v3 + 1)), (0, .ref a0), (1, .int a1), (2, .int a2)]) C.1 C.2.1 dX7_childAt_40 hl (k := 3) rfl rfl (by decide) rfl (fun ls hl => ?_)
        refine lv_goto (tgt := 2) C.1 C.2.1 dX7_childAt_43 (by decide) ?_
        have e := Option.some.inj h
        rw [← e] at hz1
        exact ih1 ((v3 + 1)) _ _ _ hP hS (lv_sub hl [1, 2, 3, 0] rfl) (itK_inl hz1)
      unfold fX7_childAt_2b at h
      refine lv_iload_n C.1 C.2.1 dX7_childAt_2 rfl (lv_at hl 3 rfl) ?_
      refine lv_bipush (v := 24) C.1 C.2.1 dX7_childAt_3 (by decide) ?_
      refine b_ige (tgt := 46) C dX7_childAt_5 (by decide) h (fun h => ?_) (fun h => ?_)
      · refine lv_aload_n C.1 C.2.1 dX7_childAt_8 rfl (lv_at hl 0 rfl) ?_
        refine lv_iload_n C.1 C.2.1 dX7_childAt_9 rfl (lv_at hl 3 rfl) ?_
        refine lv_iconst (v := 0) C.1 C.2.1 dX7_childAt_10 (by decide) ?_
        obtain ⟨r1, hc, h⟩ := bS h
        refine r_V1 C hK hX hb hP hS hl.1 (kX7_of (hT) hc) hT cl_7 wd_1197 mo_X7_of wd_1199 wd_24 ⟨Nat.le_of_ble_eq_true rfl, Nat.le_of_ble_eq_true rfl⟩ ⟨Nat.le_of_ble_eq_true rfl, Nat.le_of_ble_eq_true rfl⟩ rfl (rest := []) rfl (Nat.le_of_ble_eq_true rfl) dX7_childAt_11 (fun H locs hP hS => ?_)
        refine lv_iconst (v := 1) C.1 C.2.1 dX7_childAt_14 (by decide) ?_
        refine b_ine (tgt := 40) C dX7_childAt_15 (by decide) h (fun h => ?_) (fun h => ?_)
        · refine lv_aload_n C.1 C.2.1 dX7_childAt_18 rfl (lv_at hl 0 rfl) ?_
          refine lv_iload_n C.1 C.2.1 dX7_childAt_19 rfl (lv_at hl 3 rfl) ?_
          refine lv_iconst (v := 1) C.1 C.2.1 dX7_childAt_20 (by decide) ?_
          obtain ⟨r2, hc, h⟩ := bS h
          refine r_V1 C hK hX hb hP hS hl.1 (kX7_of (hT) hc) hT cl_7 wd_1197 mo_X7_of wd_1199 wd_24 ⟨Nat.le_of_ble_eq_true rfl, Nat.le_of_ble_eq_true rfl⟩ ⟨Nat.le_of_ble_eq_true rfl, Nat.le_of_ble_eq_true rfl⟩ rfl (rest := []) rfl (Nat.le_of_ble_eq_true rfl) dX7_childAt_21 (fun H locs hP hS => ?_)
          refine lv_iload_n C.1 C.2.1 dX7_childAt_24 rfl (lv_at hl 1 rfl) ?_
          refine b_ine (tgt := 40) C dX7_childAt_25 (by decide) h (fun h => ?_) (fun h => ?_)
          · refine lv_aload_n C.1 C.2.1 dX7_childAt_28 rfl (lv_at hl 0 rfl) ?_
            refine lv_iload_n C.1 C.2.1 dX7_childAt_29 rfl (lv_at hl 3 rfl) ?_
            refine lv_iconst (v := 2) C.1 C.2.1 dX7_childAt_30 (by decide) ?_
            obtain ⟨r3, hc, h⟩ := bS h
            refine r_V1 C hK hX hb hP hS hl.1 (kX7_of (hT) hc) hT cl_7 wd_1197 mo_X7_of wd_1199 wd_24 ⟨Nat.le_of_ble_eq_true rfl, Nat.le_of_ble_eq_true rfl⟩ ⟨Nat.le_of_ble_eq_true rfl, Nat.le_of_ble_eq_true rfl⟩ rfl (rest := []) rfl (Nat.le_of_ble_eq_true rfl) dX7_childAt_31 (fun H locs hP hS => ?_)
            refine lv_iload_n C.1 C.2.1 dX7_childAt_34 rfl (lv_at hl 2 rfl) ?_
            refine b_ine (tgt := 40) C dX7_childAt_35 (by decide) h (fun h => ?_) (fun h => ?_)
            · refine lv_iload_n C.1 C.2.1 dX7_childAt_38 rfl (lv_at hl 3 rfl) ?_
              have e := Option.some.inj h
              rw [← e] at hz1
              replace e := itK_inr hz1
              exact q_i C hlk hP hS hr (by rw [← e]) rfl dX7_childAt_39
            · exact J40 (v3) _ _ _ hP hS (lv_sub hl [0, 1, 2, 3] rfl) h
          · exact J40 (v3) _ _ _ hP hS (lv_sub hl [0, 1, 2, 3] rfl) h
        · exact J40 (v3) _ _ _ hP hS (lv_sub hl [0, 1, 2, 3] rfl) h
      · refine lv_iconst (v := (-1)) C.1 C.2.1 dX7_childAt_46 (by decide) ?_
        have e := Option.some.inj h
        rw [← e] at hz1
        replace e := itK_inr hz1
        exact q_i C hlk hP hS hr (by rw [← e]) rfl dX7_childAt_47
  unfold fX7_childAt at h
  refine lv_iconst (v := 0) C.1 C.2.1 dX7_childAt_0 (by decide) ?_
  refine lv_istore_n (lv' := [(3, .int 0), (0, .ref a0), (1, .int a1), (2, .int a2)]) C.1 C.2.1 dX7_childAt_1 rfl hl (by decide) rfl (fun ls hl => ?_)
  exact J2  n (0) _ _ _ hP hS (lv_sub hl [1, 2, 3, 0] rfl) h
theorem dX7_behind_0 : decode cX7_behind 0 = .ok (.iload_n 1, 1) := by decide +kernel
theorem dX7_behind_1 : decode cX7_behind 1 = .ok (.istore_n 3, 1) := by decide +kernel
theorem dX7_behind_2 : decode cX7_behind 2 = .ok (.iload_n 3, 1) := by decide +kernel
theorem dX7_behind_3 : decode cX7_behind 3 = .ok (.iload_n 2, 1) := by decide +kernel
theorem dX7_behind_4 : decode cX7_behind 4 = .ok (.if_icmp .eq 42, 3) := by decide +kernel
theorem dX7_behind_7 : decode cX7_behind 7 = .ok (.aload_n 0, 1) := by decide +kernel
theorem dX7_behind_8 : decode cX7_behind 8 = .ok (.aload_n 0, 1) := by decide +kernel
theorem dX7_behind_9 : decode cX7_behind 9 = .ok (.iload_n 3, 1) := by decide +kernel
theorem dX7_behind_10 : decode cX7_behind 10 = .ok (.iconst 1, 1) := by decide +kernel
theorem dX7_behind_11 : decode cX7_behind 11 = .ok (.invokevirtual 40, 3) := by decide +kernel
theorem dX7_behind_14 : decode cX7_behind 14 = .ok (.aload_n 0, 1) := by decide +kernel
theorem dX7_behind_15 : decode cX7_behind 15 = .ok (.iload_n 3, 1) := by decide +kernel
theorem dX7_behind_16 : decode cX7_behind 16 = .ok (.iconst 2, 1) := by decide +kernel
theorem dX7_behind_17 : decode cX7_behind 17 = .ok (.invokevirtual 40, 3) := by decide +kernel
theorem dX7_behind_20 : decode cX7_behind 20 = .ok (.iconst 1, 1) := by decide +kernel
theorem dX7_behind_21 : decode cX7_behind 21 = .ok (.iadd, 1) := by decide +kernel
theorem dX7_behind_22 : decode cX7_behind 22 = .ok (.invokevirtual 44, 3) := by decide +kernel
theorem dX7_behind_25 : decode cX7_behind 25 = .ok (.istore 4, 2) := by decide +kernel
theorem dX7_behind_27 : decode cX7_behind 27 = .ok (.iload 4, 2) := by decide +kernel
theorem dX7_behind_29 : decode cX7_behind 29 = .ok (.iconst (-1), 1) := by decide +kernel
theorem dX7_behind_30 : decode cX7_behind 30 = .ok (.if_icmp .eq 6, 3) := by decide +kernel
theorem dX7_behind_33 : decode cX7_behind 33 = .ok (.iload 4, 2) := by decide +kernel
theorem dX7_behind_35 : decode cX7_behind 35 = .ok (.ireturn, 1) := by decide +kernel
theorem dX7_behind_36 : decode cX7_behind 36 = .ok (.aload_n 0, 1) := by decide +kernel
theorem dX7_behind_37 : decode cX7_behind 37 = .ok (.iload_n 3, 1) := by decide +kernel
theorem dX7_behind_38 : decode cX7_behind 38 = .ok (.iconst 1, 1) := by decide +kernel
theorem dX7_behind_39 : decode cX7_behind 39 = .ok (.invokevirtual 40, 3) := by decide +kernel
theorem dX7_behind_42 : decode cX7_behind 42 = .ok (.istore_n 3, 1) := by decide +kernel
theorem dX7_behind_43 : decode cX7_behind 43 = .ok (.goto (-41), 3) := by decide +kernel
theorem dX7_behind_46 : decode cX7_behind 46 = .ok (.iconst (-1), 1) := by decide +kernel
theorem dX7_behind_47 : decode cX7_behind 47 = .ok (.ireturn, 1) := by decide +kernel
abbrev rmX7_behind : Room := { frames := 3, cells := 0, slots := 0, locals := 85 }
noncomputable def fX7_behind_2b (n : Nat) (Sh : Sp) (M : Mm) (a0 : Nat) (a1 : Int32) (a2 : Int32) (v3 : Int32) : Option (Int32 ⊕ Int32) :=
  if v3 = a2 then
    some (Sum.inr (-1))
  else
    (fX7_of n Sh M a0 v3 1).bind fun r1 =>
    (fX7_of n Sh M a0 v3 2).bind fun r2 =>
    (fX7_childAt n Sh M a0 r1 (r2 + 1)).bind fun r3 =>
    if r3 = (-1) then
      (fX7_of n Sh M a0 v3 1).bind fun r4 =>
      some (Sum.inl r4)
    else
      some (Sum.inr r3)
noncomputable def fX7_behind_2 (n : Nat) (Sh : Sp) (M : Mm) (a0 : Nat) (a1 : Int32) (a2 : Int32) (v3 : Int32) : Option Int32 :=
  iter n (fun s => fX7_behind_2b n Sh M a0 a1 a2 s) v3
noncomputable def fX7_behind (n : Nat) (Sh : Sp) (M : Mm) (a0 : Nat) (a1 : Int32) (a2 : Int32) : Option Int32 :=
  fX7_behind_2 n Sh M a0 a1 a2 a1
set_option maxRecDepth 100000 in
set_option maxHeartbeats 4000000 in
theorem kX7_behind {l : Launch} {G : Gt} {n : Nat} {Sh : Sp} {M : Mm} {a0 : Nat} {a1 : Int32} {a2 : Int32} (hT : Sh a0 = some (.inl 7)) {r : Int32} (h : fX7_behind n Sh M a0 a1 a2 = some r) : Ct l yX7_behind cX7_behind 5 (some .int) rmX7_behind G Sh M [.ref a0, .int a1, .int a2] (some (.int r)) M := by
  refine Ct.of (by decide) (Nat.le_of_ble_eq_true rfl) ?_
  intro p e s m args below meth c ls C hK hX hP hS hb hlk hr hl
  replace hl : lv_has ls 5 [(0, .ref a0), (1, .int a1), (2, .int a2)] := hl
  have J2 : ∀ (k : Nat) (v3 : Int32) (H : Heap) (locs : List Loc) (ls : Array Slot), HM G Sh M H → SS G s s.heap.size H locs → lv_has ls 5 [(0, .ref a0), (1, .int a1), (2, .int a2), (3, .int v3)] → iter k (fun s => fX7_behind_2b n Sh M a0 a1 a2 s) v3 = some r → W p l e rmX7_behind s m args below meth c H locs 0 0 (MQ below (QG G Sh M (some (.int r))) args s rmX7_behind.cells rmX7_behind.slots (AA G)) (F0 m 2 ls []) := by
    intro k
    induction k with
    | zero => intro v3 H locs ls hP hS hl h; exact (iter_0 h).elim
    | succ k ih1 =>
      intro v3 H locs ls hP hS hl h
      obtain ⟨z1, h, hz1⟩ := iter_some h
      replace h : fX7_behind_2b n Sh M a0 a1 a2 v3 = some z1 := h
      unfold fX7_behind_2b at h
      refine lv_iload_n C.1 C.2.1 dX7_behind_2 rfl (lv_at hl 3 rfl) ?_
      refine lv_iload_n C.1 C.2.1 dX7_behind_3 rfl (lv_at hl 2 rfl) ?_
      refine b_ieq (tgt := 46) C dX7_behind_4 (by decide) h (fun h => ?_) (fun h => ?_)
      · refine lv_iconst (v := (-1)) C.1 C.2.1 dX7_behind_46 (by decide) ?_
        have e := Option.some.inj h
        rw [← e] at hz1
        replace e := itK_inr hz1
        exact q_i C hlk hP hS hr (by rw [← e]) rfl dX7_behind_47
      · refine lv_aload_n C.1 C.2.1 dX7_behind_7 rfl (lv_at hl 0 rfl) ?_
        refine lv_aload_n C.1 C.2.1 dX7_behind_8 rfl (lv_at hl 0 rfl) ?_
        refine lv_iload_n C.1 C.2.1 dX7_behind_9 rfl (lv_at hl 3 rfl) ?_
        refine lv_iconst (v := 1) C.1 C.2.1 dX7_behind_10 (by decide) ?_
        obtain ⟨r1, hc, h⟩ := bS h
        refine r_V1 C hK hX hb hP hS hl.1 (kX7_of (hT) hc) hT cl_7 wd_1197 mo_X7_of wd_1199 wd_24 ⟨Nat.le_of_ble_eq_true rfl, Nat.le_of_ble_eq_true rfl⟩ ⟨Nat.le_of_ble_eq_true rfl, Nat.le_of_ble_eq_true rfl⟩ rfl (rest := [.ref a0]) rfl (Nat.le_of_ble_eq_true rfl) dX7_behind_11 (fun H locs hP hS => ?_)
        refine lv_aload_n C.1 C.2.1 dX7_behind_14 rfl (lv_at hl 0 rfl) ?_
        refine lv_iload_n C.1 C.2.1 dX7_behind_15 rfl (lv_at hl 3 rfl) ?_
        refine lv_iconst (v := 2) C.1 C.2.1 dX7_behind_16 (by decide) ?_
        obtain ⟨r2, hc, h⟩ := bS h
        refine r_V1 C hK hX hb hP hS hl.1 (kX7_of (hT) hc) hT cl_7 wd_1197 mo_X7_of wd_1199 wd_24 ⟨Nat.le_of_ble_eq_true rfl, Nat.le_of_ble_eq_true rfl⟩ ⟨Nat.le_of_ble_eq_true rfl, Nat.le_of_ble_eq_true rfl⟩ rfl (rest := [.int r1, .ref a0]) rfl (Nat.le_of_ble_eq_true rfl) dX7_behind_17 (fun H locs hP hS => ?_)
        refine lv_iconst (v := 1) C.1 C.2.1 dX7_behind_20 (by decide) ?_
        refine lv_iadd C.1 C.2.1 dX7_behind_21 ?_
        obtain ⟨r3, hc, h⟩ := bS h
        refine r_V1 C hK hX hb hP hS hl.1 (kX7_childAt (hT) hc) hT cl_7 wd_1272 mo_X7_childAt wd_1274 wd_37 ⟨Nat.le_of_ble_eq_true rfl, Nat.le_of_ble_eq_true rfl⟩ ⟨Nat.le_of_ble_eq_true rfl, Nat.le_of_ble_eq_true rfl⟩ rfl (rest := []) rfl (Nat.le_of_ble_eq_true rfl) dX7_behind_22 (fun H locs hP hS => ?_)
        refine lv_istore (lv' := [(4, .int r3), (0, .ref a0), (1, .int a1), (2, .int a2), (3, .int v3)]) C.1 C.2.1 dX7_behind_25 hl (by decide) rfl (fun ls hl => ?_)
        refine lv_iload C.1 C.2.1 dX7_behind_27 (lv_at hl 0 rfl) ?_
        refine lv_iconst (v := (-1)) C.1 C.2.1 dX7_behind_29 (by decide) ?_
        refine b_ieq (tgt := 36) C dX7_behind_30 (by decide) h (fun h => ?_) (fun h => ?_)
        · refine lv_aload_n C.1 C.2.1 dX7_behind_36 rfl (lv_at hl 1 rfl) ?_
          refine lv_iload_n C.1 C.2.1 dX7_behind_37 rfl (lv_at hl 4 rfl) ?_
          refine lv_iconst (v := 1) C.1 C.2.1 dX7_behind_38 (by decide) ?_
          obtain ⟨r4, hc, h⟩ := bS h
          refine r_V1 C hK hX hb hP hS hl.1 (kX7_of (hT) hc) hT cl_7 wd_1197 mo_X7_of wd_1199 wd_24 ⟨Nat.le_of_ble_eq_true rfl, Nat.le_of_ble_eq_true rfl⟩ ⟨Nat.le_of_ble_eq_true rfl, Nat.le_of_ble_eq_true rfl⟩ rfl (rest := []) rfl (Nat.le_of_ble_eq_true rfl) dX7_behind_39 (fun H locs hP hS => ?_)
          refine lv_istore_n (lv' := [(3, .int r4), (4, .int r3), (0, .ref a0), (1, .int a1), (2, .int a2)]) C.1 C.2.1 dX7_behind_42 rfl hl (by decide) rfl (fun ls hl => ?_)
          refine lv_goto (tgt := 2) C.1 C.2.1 dX7_behind_43 (by decide) ?_
          have e := Option.some.inj h
          rw [← e] at hz1
          exact ih1 (r4) _ _ _ hP hS (lv_sub hl [2, 3, 4, 0] rfl) (itK_inl hz1)
        · refine lv_iload C.1 C.2.1 dX7_behind_33 (lv_at hl 0 rfl) ?_
          have e := Option.some.inj h
          rw [← e] at hz1
          replace e := itK_inr hz1
          exact q_i C hlk hP hS hr (by rw [← e]) rfl dX7_behind_35
  unfold fX7_behind at h
  refine lv_iload_n C.1 C.2.1 dX7_behind_0 rfl (lv_at hl 1 rfl) ?_
  refine lv_istore_n (lv' := [(3, .int a1), (0, .ref a0), (1, .int a1), (2, .int a2)]) C.1 C.2.1 dX7_behind_1 rfl hl (by decide) rfl (fun ls hl => ?_)
  exact J2  n (a1) _ _ _ hP hS (lv_sub hl [1, 2, 3, 0] rfl) h
theorem dX7_following_0 : decode cX7_following 0 = .ok (.aload_n 0, 1) := by decide +kernel
theorem dX7_following_1 : decode cX7_following 1 = .ok (.iload_n 1, 1) := by decide +kernel
theorem dX7_following_2 : decode cX7_following 2 = .ok (.iconst 0, 1) := by decide +kernel
theorem dX7_following_3 : decode cX7_following 3 = .ok (.invokevirtual 44, 3) := by decide +kernel
theorem dX7_following_6 : decode cX7_following 6 = .ok (.istore_n 3, 1) := by decide +kernel
theorem dX7_following_7 : decode cX7_following 7 = .ok (.iload_n 3, 1) := by decide +kernel
theorem dX7_following_8 : decode cX7_following 8 = .ok (.iconst (-1), 1) := by decide +kernel
theorem dX7_following_9 : decode cX7_following 9 = .ok (.if_icmp .eq 7, 3) := by decide +kernel
theorem dX7_following_12 : decode cX7_following 12 = .ok (.iload_n 3, 1) := by decide +kernel
theorem dX7_following_13 : decode cX7_following 13 = .ok (.goto 9, 3) := by decide +kernel
theorem dX7_following_16 : decode cX7_following 16 = .ok (.aload_n 0, 1) := by decide +kernel
theorem dX7_following_17 : decode cX7_following 17 = .ok (.iload_n 1, 1) := by decide +kernel
theorem dX7_following_18 : decode cX7_following 18 = .ok (.iload_n 2, 1) := by decide +kernel
theorem dX7_following_19 : decode cX7_following 19 = .ok (.invokevirtual 47, 3) := by decide +kernel
theorem dX7_following_22 : decode cX7_following 22 = .ok (.ireturn, 1) := by decide +kernel
abbrev rmX7_following : Room := { frames := 4, cells := 0, slots := 0, locals := 109 }
noncomputable def fX7_following (n : Nat) (Sh : Sp) (M : Mm) (a0 : Nat) (a1 : Int32) (a2 : Int32) : Option Int32 :=
  (fX7_childAt n Sh M a0 a1 0).bind fun r1 =>
  if r1 = (-1) then
    (fX7_behind n Sh M a0 a1 a2).bind fun r2 =>
    some r2
  else
    some r1
set_option maxRecDepth 100000 in
set_option maxHeartbeats 4000000 in
theorem kX7_following {l : Launch} {G : Gt} {n : Nat} {Sh : Sp} {M : Mm} {a0 : Nat} {a1 : Int32} {a2 : Int32} (hT : Sh a0 = some (.inl 7)) {r : Int32} (h : fX7_following n Sh M a0 a1 a2 = some r) : Ct l yX7_following cX7_following 4 (some .int) rmX7_following G Sh M [.ref a0, .int a1, .int a2] (some (.int r)) M := by
  refine Ct.of (by decide) (Nat.le_of_ble_eq_true rfl) ?_
  intro p e s m args below meth c ls C hK hX hP hS hb hlk hr hl
  replace hl : lv_has ls 4 [(0, .ref a0), (1, .int a1), (2, .int a2)] := hl
  unfold fX7_following at h
  refine lv_aload_n C.1 C.2.1 dX7_following_0 rfl (lv_at hl 0 rfl) ?_
  refine lv_iload_n C.1 C.2.1 dX7_following_1 rfl (lv_at hl 1 rfl) ?_
  refine lv_iconst (v := 0) C.1 C.2.1 dX7_following_2 (by decide) ?_
  obtain ⟨r1, hc, h⟩ := bS h
  refine r_V1 C hK hX hb hP hS hl.1 (kX7_childAt (hT) hc) hT cl_7 wd_1272 mo_X7_childAt wd_1274 wd_37 ⟨Nat.le_of_ble_eq_true rfl, Nat.le_of_ble_eq_true rfl⟩ ⟨Nat.le_of_ble_eq_true rfl, Nat.le_of_ble_eq_true rfl⟩ rfl (rest := []) rfl (Nat.le_of_ble_eq_true rfl) dX7_following_3 (fun H locs hP hS => ?_)
  refine lv_istore_n (lv' := [(3, .int r1), (0, .ref a0), (1, .int a1), (2, .int a2)]) C.1 C.2.1 dX7_following_6 rfl hl (by decide) rfl (fun ls hl => ?_)
  refine lv_iload_n C.1 C.2.1 dX7_following_7 rfl (lv_at hl 0 rfl) ?_
  refine lv_iconst (v := (-1)) C.1 C.2.1 dX7_following_8 (by decide) ?_
  refine b_ieq (tgt := 16) C dX7_following_9 (by decide) h (fun h => ?_) (fun h => ?_)
  · refine lv_aload_n C.1 C.2.1 dX7_following_16 rfl (lv_at hl 1 rfl) ?_
    refine lv_iload_n C.1 C.2.1 dX7_following_17 rfl (lv_at hl 2 rfl) ?_
    refine lv_iload_n C.1 C.2.1 dX7_following_18 rfl (lv_at hl 3 rfl) ?_
    obtain ⟨r2, hc, h⟩ := bS h
    refine r_V1 C hK hX hb hP hS hl.1 (kX7_behind (hT) hc) hT cl_7 wd_1323 mo_X7_behind wd_1325 wd_48 ⟨Nat.le_of_ble_eq_true rfl, Nat.le_of_ble_eq_true rfl⟩ ⟨Nat.le_of_ble_eq_true rfl, Nat.le_of_ble_eq_true rfl⟩ rfl (rest := []) rfl (Nat.le_of_ble_eq_true rfl) dX7_following_19 (fun H locs hP hS => ?_)
    have e := Option.some.inj h
    exact q_i C hlk hP hS hr (by rw [← e]) rfl dX7_following_22
  · refine lv_iload_n C.1 C.2.1 dX7_following_12 rfl (lv_at hl 0 rfl) ?_
    refine lv_goto (tgt := 22) C.1 C.2.1 dX7_following_13 (by decide) ?_
    have e := Option.some.inj h
    exact q_i C hlk hP hS hr (by rw [← e]) rfl dX7_following_22
theorem dX7_isBelow_0 : decode cX7_isBelow 0 = .ok (.aload_n 0, 1) := by decide +kernel
theorem dX7_isBelow_1 : decode cX7_isBelow 1 = .ok (.iload_n 1, 1) := by decide +kernel
theorem dX7_isBelow_2 : decode cX7_isBelow 2 = .ok (.iconst 1, 1) := by decide +kernel
theorem dX7_isBelow_3 : decode cX7_isBelow 3 = .ok (.invokevirtual 40, 3) := by decide +kernel
theorem dX7_isBelow_6 : decode cX7_isBelow 6 = .ok (.istore_n 3, 1) := by decide +kernel
theorem dX7_isBelow_7 : decode cX7_isBelow 7 = .ok (.iload_n 3, 1) := by decide +kernel
theorem dX7_isBelow_8 : decode cX7_isBelow 8 = .ok (.iconst (-1), 1) := by decide +kernel
theorem dX7_isBelow_9 : decode cX7_isBelow 9 = .ok (.if_icmp .eq 18, 3) := by decide +kernel
theorem dX7_isBelow_12 : decode cX7_isBelow 12 = .ok (.iload_n 3, 1) := by decide +kernel
theorem dX7_isBelow_13 : decode cX7_isBelow 13 = .ok (.iload_n 2, 1) := by decide +kernel
theorem dX7_isBelow_14 : decode cX7_isBelow 14 = .ok (.if_icmp .eq 13, 3) := by decide +kernel
theorem dX7_isBelow_17 : decode cX7_isBelow 17 = .ok (.aload_n 0, 1) := by decide +kernel
theorem dX7_isBelow_18 : decode cX7_isBelow 18 = .ok (.iload_n 3, 1) := by decide +kernel
theorem dX7_isBelow_19 : decode cX7_isBelow 19 = .ok (.iconst 1, 1) := by decide +kernel
theorem dX7_isBelow_20 : decode cX7_isBelow 20 = .ok (.invokevirtual 40, 3) := by decide +kernel
theorem dX7_isBelow_23 : decode cX7_isBelow 23 = .ok (.istore_n 3, 1) := by decide +kernel
theorem dX7_isBelow_24 : decode cX7_isBelow 24 = .ok (.goto (-17), 3) := by decide +kernel
theorem dX7_isBelow_27 : decode cX7_isBelow 27 = .ok (.iload_n 3, 1) := by decide +kernel
theorem dX7_isBelow_28 : decode cX7_isBelow 28 = .ok (.iload_n 2, 1) := by decide +kernel
theorem dX7_isBelow_29 : decode cX7_isBelow 29 = .ok (.if_icmp .ne 7, 3) := by decide +kernel
theorem dX7_isBelow_32 : decode cX7_isBelow 32 = .ok (.iconst 1, 1) := by decide +kernel
theorem dX7_isBelow_33 : decode cX7_isBelow 33 = .ok (.goto 4, 3) := by decide +kernel
theorem dX7_isBelow_36 : decode cX7_isBelow 36 = .ok (.iconst 0, 1) := by decide +kernel
theorem dX7_isBelow_37 : decode cX7_isBelow 37 = .ok (.ireturn, 1) := by decide +kernel
abbrev rmX7_isBelow : Room := { frames := 2, cells := 0, slots := 0, locals := 62 }
noncomputable def fX7_isBelow_27 (n : Nat) (Sh : Sp) (M : Mm) (a0 : Nat) (a1 : Int32) (a2 : Int32) (v3 : Int32) : Option Int32 :=
  if v3 = a2 then
    some 1
  else
    some 0
noncomputable def fX7_isBelow_7b (n : Nat) (Sh : Sp) (M : Mm) (a0 : Nat) (a1 : Int32) (a2 : Int32) (v3 : Int32) : Option (Int32 ⊕ Int32) :=
  if v3 = (-1) then
    (fX7_isBelow_27 n Sh M a0 a1 a2 v3).map Sum.inr
  else
    if v3 = a2 then
      (fX7_isBelow_27 n Sh M a0 a1 a2 v3).map Sum.inr
    else
      (fX7_of n Sh M a0 v3 1).bind fun r1 =>
      some (Sum.inl r1)
noncomputable def fX7_isBelow_7 (n : Nat) (Sh : Sp) (M : Mm) (a0 : Nat) (a1 : Int32) (a2 : Int32) (v3 : Int32) : Option Int32 :=
  iter n (fun s => fX7_isBelow_7b n Sh M a0 a1 a2 s) v3
noncomputable def fX7_isBelow (n : Nat) (Sh : Sp) (M : Mm) (a0 : Nat) (a1 : Int32) (a2 : Int32) : Option Int32 :=
  (fX7_of n Sh M a0 a1 1).bind fun r2 =>
  fX7_isBelow_7 n Sh M a0 a1 a2 r2
set_option maxRecDepth 100000 in
set_option maxHeartbeats 4000000 in
theorem kX7_isBelow {l : Launch} {G : Gt} {n : Nat} {Sh : Sp} {M : Mm} {a0 : Nat} {a1 : Int32} {a2 : Int32} (hT : Sh a0 = some (.inl 7)) {r : Int32} (h : fX7_isBelow n Sh M a0 a1 a2 = some r) : Ct l yX7_isBelow cX7_isBelow 4 (some .boolean) rmX7_isBelow G Sh M [.ref a0, .int a1, .int a2] (some (.int r)) M := by
  refine Ct.of (by decide) (Nat.le_of_ble_eq_true rfl) ?_
  intro p e s m args below meth c ls C hK hX hP hS hb hlk hr hl
  replace hl : lv_has ls 4 [(0, .ref a0), (1, .int a1), (2, .int a2)] := hl
  have J27 : ∀ (v3 : Int32) (H : Heap) (locs : List Loc) (ls : Array Slot), HM G Sh M H → SS G s s.heap.size H locs → lv_has ls 4 [(0, .ref a0), (1, .int a1), (2, .int a2), (3, .int v3)] → fX7_isBelow_27 n Sh M a0 a1 a2 v3 = some r → W p l e rmX7_isBelow s m args below meth c H locs 0 0 (MQ below (QG G Sh M (some (.int r))) args s rmX7_isBelow.cells rmX7_isBelow.slots (AA G)) (F0 m 27 ls []) := by
    intro v3 H locs ls hP hS hl h
    unfold fX7_isBelow_27 at h
    refine lv_iload_n C.1 C.2.1 dX7_isBelow_27 rfl (lv_at hl 3 rfl) ?_
    refine lv_iload_n C.1 C.2.1 dX7_isBelow_28 rfl (lv_at hl 2 rfl) ?_
    refine b_ine (tgt := 36) C dX7_isBelow_29 (by decide) h (fun h => ?_) (fun h => ?_)
    · refine lv_iconst (v := 1) C.1 C.2.1 dX7_isBelow_32 (by decide) ?_
      refine lv_goto (tgt := 37) C.1 C.2.1 dX7_isBelow_33 (by decide) ?_
      have e := Option.some.inj h
      exact q_z C hlk hP hS hr (by decide) (by rw [← e]) rfl dX7_isBelow_37
    · refine lv_iconst (v := 0) C.1 C.2.1 dX7_isBelow_36 (by decide) ?_
      have e := Option.some.inj h
      exact q_z C hlk hP hS hr (by decide) (by rw [← e]) rfl dX7_isBelow_37
  have J7 : ∀ (k : Nat) (v3 : Int32) (H : Heap) (locs : List Loc) (ls : Array Slot), HM G Sh M H → SS G s s.heap.size H locs → lv_has ls 4 [(0, .ref a0), (1, .int a1), (2, .int a2), (3, .int v3)] → iter k (fun s => fX7_isBelow_7b n Sh M a0 a1 a2 s) v3 = some r → W p l e rmX7_isBelow s m args below meth c H locs 0 0 (MQ below (QG G Sh M (some (.int r))) args s rmX7_isBelow.cells rmX7_isBelow.slots (AA G)) (F0 m 7 ls []) := by
    intro k
    induction k with
    | zero => intro v3 H locs ls hP hS hl h; exact (iter_0 h).elim
    | succ k ih1 =>
      intro v3 H locs ls hP hS hl h
      obtain ⟨z1, h, hz1⟩ := iter_some h
      replace h : fX7_isBelow_7b n Sh M a0 a1 a2 v3 = some z1 := h
      unfold fX7_isBelow_7b at h
      refine lv_iload_n C.1 C.2.1 dX7_isBelow_7 rfl (lv_at hl 3 rfl) ?_
      refine lv_iconst (v := (-1)) C.1 C.2.1 dX7_isBelow_8 (by decide) ?_
      refine b_ieq (tgt := 27) C dX7_isBelow_9 (by decide) h (fun h => ?_) (fun h => ?_)
      · obtain ⟨w1, h, e⟩ := mS h
        rw [← e] at hz1
        replace e := itK_inr hz1
        rw [e] at h
        exact J27 (v3) _ _ _ hP hS (lv_sub hl [0, 1, 2, 3] rfl) h
      · refine lv_iload_n C.1 C.2.1 dX7_isBelow_12 rfl (lv_at hl 3 rfl) ?_
        refine lv_iload_n C.1 C.2.1 dX7_isBelow_13 rfl (lv_at hl 2 rfl) ?_
        refine b_ieq (tgt := 27) C dX7_isBelow_14 (by decide) h (fun h => ?_) (fun h => ?_)
        · obtain ⟨w1, h, e⟩ := mS h
          rw [← e] at hz1
          replace e := itK_inr hz1
          rw [e] at h
          exact J27 (v3) _ _ _ hP hS (lv_sub hl [0, 1, 2, 3] rfl) h
        · refine lv_aload_n C.1 C.2.1 dX7_isBelow_17 rfl (lv_at hl 0 rfl) ?_
          refine lv_iload_n C.1 C.2.1 dX7_isBelow_18 rfl (lv_at hl 3 rfl) ?_
          refine lv_iconst (v := 1) C.1 C.2.1 dX7_isBelow_19 (by decide) ?_
          obtain ⟨r1, hc, h⟩ := bS h
          refine r_V1 C hK hX hb hP hS hl.1 (kX7_of (hT) hc) hT cl_7 wd_1197 mo_X7_of wd_1199 wd_24 ⟨Nat.le_of_ble_eq_true rfl, Nat.le_of_ble_eq_true rfl⟩ ⟨Nat.le_of_ble_eq_true rfl, Nat.le_of_ble_eq_true rfl⟩ rfl (rest := []) rfl (Nat.le_of_ble_eq_true rfl) dX7_isBelow_20 (fun H locs hP hS => ?_)
          refine lv_istore_n (lv' := [(3, .int r1), (0, .ref a0), (1, .int a1), (2, .int a2)]) C.1 C.2.1 dX7_isBelow_23 rfl hl (by decide) rfl (fun ls hl => ?_)
          refine lv_goto (tgt := 7) C.1 C.2.1 dX7_isBelow_24 (by decide) ?_
          have e := Option.some.inj h
          rw [← e] at hz1
          exact ih1 (r1) _ _ _ hP hS (lv_sub hl [1, 2, 3, 0] rfl) (itK_inl hz1)
  unfold fX7_isBelow at h
  refine lv_aload_n C.1 C.2.1 dX7_isBelow_0 rfl (lv_at hl 0 rfl) ?_
  refine lv_iload_n C.1 C.2.1 dX7_isBelow_1 rfl (lv_at hl 1 rfl) ?_
  refine lv_iconst (v := 1) C.1 C.2.1 dX7_isBelow_2 (by decide) ?_
  obtain ⟨r2, hc, h⟩ := bS h
  refine r_V1 C hK hX hb hP hS hl.1 (kX7_of (hT) hc) hT cl_7 wd_1197 mo_X7_of wd_1199 wd_24 ⟨Nat.le_of_ble_eq_true rfl, Nat.le_of_ble_eq_true rfl⟩ ⟨Nat.le_of_ble_eq_true rfl, Nat.le_of_ble_eq_true rfl⟩ rfl (rest := []) rfl (Nat.le_of_ble_eq_true rfl) dX7_isBelow_3 (fun H locs hP hS => ?_)
  refine lv_istore_n (lv' := [(3, .int r2), (0, .ref a0), (1, .int a1), (2, .int a2)]) C.1 C.2.1 dX7_isBelow_6 rfl hl (by decide) rfl (fun ls hl => ?_)
  exact J7  n (r2) _ _ _ hP hS (lv_sub hl [1, 2, 3, 0] rfl) h
theorem dX7_isOut_0 : decode cX7_isOut 0 = .ok (.aload_n 0, 1) := by decide +kernel
theorem dX7_isOut_1 : decode cX7_isOut 1 = .ok (.iload_n 1, 1) := by decide +kernel
theorem dX7_isOut_2 : decode cX7_isOut 2 = .ok (.iconst 5, 1) := by decide +kernel
theorem dX7_isOut_3 : decode cX7_isOut 3 = .ok (.invokevirtual 40, 3) := by decide +kernel
theorem dX7_isOut_6 : decode cX7_isOut 6 = .ok (.iconst 1, 1) := by decide +kernel
theorem dX7_isOut_7 : decode cX7_isOut 7 = .ok (.if_icmp .eq 24, 3) := by decide +kernel
theorem dX7_isOut_10 : decode cX7_isOut 10 = .ok (.aload_n 0, 1) := by decide +kernel
theorem dX7_isOut_11 : decode cX7_isOut 11 = .ok (.iload_n 1, 1) := by decide +kernel
theorem dX7_isOut_12 : decode cX7_isOut 12 = .ok (.iconst 3, 1) := by decide +kernel
theorem dX7_isOut_13 : decode cX7_isOut 13 = .ok (.invokevirtual 40, 3) := by decide +kernel
theorem dX7_isOut_16 : decode cX7_isOut 16 = .ok (.bipush 6, 2) := by decide +kernel
theorem dX7_isOut_18 : decode cX7_isOut 18 = .ok (.if_icmp .ne 17, 3) := by decide +kernel
theorem dX7_isOut_21 : decode cX7_isOut 21 = .ok (.aload_n 0, 1) := by decide +kernel
theorem dX7_isOut_22 : decode cX7_isOut 22 = .ok (.iload_n 1, 1) := by decide +kernel
theorem dX7_isOut_23 : decode cX7_isOut 23 = .ok (.bipush 10, 2) := by decide +kernel
theorem dX7_isOut_25 : decode cX7_isOut 25 = .ok (.invokevirtual 40, 3) := by decide +kernel
theorem dX7_isOut_28 : decode cX7_isOut 28 = .ok (.ifCond .ne 7, 3) := by decide +kernel
theorem dX7_isOut_31 : decode cX7_isOut 31 = .ok (.iconst 1, 1) := by decide +kernel
theorem dX7_isOut_32 : decode cX7_isOut 32 = .ok (.goto 4, 3) := by decide +kernel
theorem dX7_isOut_35 : decode cX7_isOut 35 = .ok (.iconst 0, 1) := by decide +kernel
theorem dX7_isOut_36 : decode cX7_isOut 36 = .ok (.ireturn, 1) := by decide +kernel
abbrev rmX7_isOut : Room := { frames := 2, cells := 0, slots := 0, locals := 62 }
noncomputable def fX7_isOut_31 (n : Nat) (Sh : Sp) (M : Mm) (a0 : Nat) (a1 : Int32) : Option Int32 :=
  some 1
noncomputable def fX7_isOut (n : Nat) (Sh : Sp) (M : Mm) (a0 : Nat) (a1 : Int32) : Option Int32 :=
  (fX7_of n Sh M a0 a1 5).bind fun r1 =>
  if r1 = 1 then
    fX7_isOut_31 n Sh M a0 a1
  else
    (fX7_of n Sh M a0 a1 3).bind fun r2 =>
    if r2 = 6 then
      (fX7_of n Sh M a0 a1 10).bind fun r3 =>
      if r3 = 0 then
        fX7_isOut_31 n Sh M a0 a1
      else
        some 0
    else
      some 0
set_option maxRecDepth 100000 in
set_option maxHeartbeats 4000000 in
theorem kX7_isOut {l : Launch} {G : Gt} {n : Nat} {Sh : Sp} {M : Mm} {a0 : Nat} {a1 : Int32} (hT : Sh a0 = some (.inl 7)) {r : Int32} (h : fX7_isOut n Sh M a0 a1 = some r) : Ct l yX7_isOut cX7_isOut 2 (some .boolean) rmX7_isOut G Sh M [.ref a0, .int a1] (some (.int r)) M := by
  refine Ct.of (by decide) (Nat.le_of_ble_eq_true rfl) ?_
  intro p e s m args below meth c ls C hK hX hP hS hb hlk hr hl
  replace hl : lv_has ls 2 [(0, .ref a0), (1, .int a1)] := hl
  have J31 : ∀ (H : Heap) (locs : List Loc) (ls : Array Slot), HM G Sh M H → SS G s s.heap.size H locs → lv_has ls 2 [(0, .ref a0), (1, .int a1)] → fX7_isOut_31 n Sh M a0 a1 = some r → W p l e rmX7_isOut s m args below meth c H locs 0 0 (MQ below (QG G Sh M (some (.int r))) args s rmX7_isOut.cells rmX7_isOut.slots (AA G)) (F0 m 31 ls []) := by
    intro  H locs ls hP hS hl h
    unfold fX7_isOut_31 at h
    refine lv_iconst (v := 1) C.1 C.2.1 dX7_isOut_31 (by decide) ?_
    refine lv_goto (tgt := 36) C.1 C.2.1 dX7_isOut_32 (by decide) ?_
    have e := Option.some.inj h
    exact q_z C hlk hP hS hr (by decide) (by rw [← e]) rfl dX7_isOut_36
  unfold fX7_isOut at h
  refine lv_aload_n C.1 C.2.1 dX7_isOut_0 rfl (lv_at hl 0 rfl) ?_
  refine lv_iload_n C.1 C.2.1 dX7_isOut_1 rfl (lv_at hl 1 rfl) ?_
  refine lv_iconst (v := 5) C.1 C.2.1 dX7_isOut_2 (by decide) ?_
  obtain ⟨r1, hc, h⟩ := bS h
  refine r_V1 C hK hX hb hP hS hl.1 (kX7_of (hT) hc) hT cl_7 wd_1197 mo_X7_of wd_1199 wd_24 ⟨Nat.le_of_ble_eq_true rfl, Nat.le_of_ble_eq_true rfl⟩ ⟨Nat.le_of_ble_eq_true rfl, Nat.le_of_ble_eq_true rfl⟩ rfl (rest := []) rfl (Nat.le_of_ble_eq_true rfl) dX7_isOut_3 (fun H locs hP hS => ?_)
  refine lv_iconst (v := 1) C.1 C.2.1 dX7_isOut_6 (by decide) ?_
  refine b_ieq (tgt := 31) C dX7_isOut_7 (by decide) h (fun h => ?_) (fun h => ?_)
  · exact J31  _ _ _ hP hS (lv_sub hl [0, 1] rfl) h
  · refine lv_aload_n C.1 C.2.1 dX7_isOut_10 rfl (lv_at hl 0 rfl) ?_
    refine lv_iload_n C.1 C.2.1 dX7_isOut_11 rfl (lv_at hl 1 rfl) ?_
    refine lv_iconst (v := 3) C.1 C.2.1 dX7_isOut_12 (by decide) ?_
    obtain ⟨r2, hc, h⟩ := bS h
    refine r_V1 C hK hX hb hP hS hl.1 (kX7_of (hT) hc) hT cl_7 wd_1197 mo_X7_of wd_1199 wd_24 ⟨Nat.le_of_ble_eq_true rfl, Nat.le_of_ble_eq_true rfl⟩ ⟨Nat.le_of_ble_eq_true rfl, Nat.le_of_ble_eq_true rfl⟩ rfl (rest := []) rfl (Nat.le_of_ble_eq_true rfl) dX7_isOut_13 (fun H locs hP hS => ?_)
    refine lv_bipush (v := 6) C.1 C.2.1 dX7_isOut_16 (by decide) ?_
    refine b_ine (tgt := 35) C dX7_isOut_18 (by decide) h (fun h => ?_) (fun h => ?_)
    · refine lv_aload_n C.1 C.2.1 dX7_isOut_21 rfl (lv_at hl 0 rfl) ?_
      refine lv_iload_n C.1 C.2.1 dX7_isOut_22 rfl (lv_at hl 1 rfl) ?_
      refine lv_bipush (v := 10) C.1 C.2.1 dX7_isOut_23 (by decide) ?_
      obtain ⟨r3, hc, h⟩ := bS h
      refine r_V1 C hK hX hb hP hS hl.1 (kX7_of (hT) hc) hT cl_7 wd_1197 mo_X7_of wd_1199 wd_24 ⟨Nat.le_of_ble_eq_true rfl, Nat.le_of_ble_eq_true rfl⟩ ⟨Nat.le_of_ble_eq_true rfl, Nat.le_of_ble_eq_true rfl⟩ rfl (rest := []) rfl (Nat.le_of_ble_eq_true rfl) dX7_isOut_25 (fun H locs hP hS => ?_)
      refine b_ne (tgt := 35) C dX7_isOut_28 (by decide) h (fun h => ?_) (fun h => ?_)
      · exact J31  _ _ _ hP hS (lv_sub hl [0, 1] rfl) h
      · refine lv_iconst (v := 0) C.1 C.2.1 dX7_isOut_35 (by decide) ?_
        have e := Option.some.inj h
        exact q_z C hlk hP hS hr (by decide) (by rw [← e]) rfl dX7_isOut_36
    · refine lv_iconst (v := 0) C.1 C.2.1 dX7_isOut_35 (by decide) ?_
      have e := Option.some.inj h
      exact q_z C hlk hP hS hr (by decide) (by rw [← e]) rfl dX7_isOut_36
theorem dX7_isShown_0 : decode cX7_isShown 0 = .ok (.iconst 1, 1) := by decide +kernel
theorem dX7_isShown_1 : decode cX7_isShown 1 = .ok (.istore_n 2, 1) := by decide +kernel
theorem dX7_isShown_2 : decode cX7_isShown 2 = .ok (.iload_n 1, 1) := by decide +kernel
theorem dX7_isShown_3 : decode cX7_isShown 3 = .ok (.istore_n 3, 1) := by decide +kernel
theorem dX7_isShown_4 : decode cX7_isShown 4 = .ok (.iload_n 3, 1) := by decide +kernel
theorem dX7_isShown_5 : decode cX7_isShown 5 = .ok (.iconst (-1), 1) := by decide +kernel
theorem dX7_isShown_6 : decode cX7_isShown 6 = .ok (.if_icmp .eq 31, 3) := by decide +kernel
theorem dX7_isShown_9 : decode cX7_isShown 9 = .ok (.iload_n 2, 1) := by decide +kernel
theorem dX7_isShown_10 : decode cX7_isShown 10 = .ok (.ifCond .eq 15, 3) := by decide +kernel
theorem dX7_isShown_13 : decode cX7_isShown 13 = .ok (.aload_n 0, 1) := by decide +kernel
theorem dX7_isShown_14 : decode cX7_isShown 14 = .ok (.iload_n 3, 1) := by decide +kernel
theorem dX7_isShown_15 : decode cX7_isShown 15 = .ok (.invokevirtual 50, 3) := by decide +kernel
theorem dX7_isShown_18 : decode cX7_isShown 18 = .ok (.ifCond .ne 7, 3) := by decide +kernel
theorem dX7_isShown_21 : decode cX7_isShown 21 = .ok (.iconst 1, 1) := by decide +kernel
theorem dX7_isShown_22 : decode cX7_isShown 22 = .ok (.goto 4, 3) := by decide +kernel
theorem dX7_isShown_25 : decode cX7_isShown 25 = .ok (.iconst 0, 1) := by decide +kernel
theorem dX7_isShown_26 : decode cX7_isShown 26 = .ok (.istore_n 2, 1) := by decide +kernel
theorem dX7_isShown_27 : decode cX7_isShown 27 = .ok (.aload_n 0, 1) := by decide +kernel
theorem dX7_isShown_28 : decode cX7_isShown 28 = .ok (.iload_n 3, 1) := by decide +kernel
theorem dX7_isShown_29 : decode cX7_isShown 29 = .ok (.iconst 1, 1) := by decide +kernel
theorem dX7_isShown_30 : decode cX7_isShown 30 = .ok (.invokevirtual 40, 3) := by decide +kernel
theorem dX7_isShown_33 : decode cX7_isShown 33 = .ok (.istore_n 3, 1) := by decide +kernel
theorem dX7_isShown_34 : decode cX7_isShown 34 = .ok (.goto (-30), 3) := by decide +kernel
theorem dX7_isShown_37 : decode cX7_isShown 37 = .ok (.iload_n 2, 1) := by decide +kernel
theorem dX7_isShown_38 : decode cX7_isShown 38 = .ok (.ireturn, 1) := by decide +kernel
abbrev rmX7_isShown : Room := { frames := 3, cells := 0, slots := 0, locals := 83 }
noncomputable def fX7_isShown_26 (n : Nat) (Sh : Sp) (M : Mm) (a0 : Nat) (a1 : Int32) (v3 : Int32) (t0 : Int32) : Option ((Int32 × Int32) ⊕ Int32) :=
  (fX7_of n Sh M a0 v3 1).bind fun r1 =>
  some (Sum.inl (t0, r1))
noncomputable def fX7_isShown_25 (n : Nat) (Sh : Sp) (M : Mm) (a0 : Nat) (a1 : Int32) (v3 : Int32) : Option ((Int32 × Int32) ⊕ Int32) :=
  fX7_isShown_26 n Sh M a0 a1 v3 0
noncomputable def fX7_isShown_4b (n : Nat) (Sh : Sp) (M : Mm) (a0 : Nat) (a1 : Int32) (v2 : Int32) (v3 : Int32) : Option ((Int32 × Int32) ⊕ Int32) :=
  if v3 = (-1) then
    chk (v2 = 0 ∨ v2 = 1) (some (Sum.inr v2))
  else
    if v2 = 0 then
      fX7_isShown_25 n Sh M a0 a1 v3
    else
      (fX7_isOut n Sh M a0 v3).bind fun r2 =>
      if r2 = 0 then
        fX7_isShown_26 n Sh M a0 a1 v3 1
      else
        fX7_isShown_25 n Sh M a0 a1 v3
noncomputable def fX7_isShown_4 (n : Nat) (Sh : Sp) (M : Mm) (a0 : Nat) (a1 : Int32) (v2 : Int32) (v3 : Int32) : Option Int32 :=
  iter n (fun s => fX7_isShown_4b n Sh M a0 a1 s.1 s.2) (v2, v3)
noncomputable def fX7_isShown (n : Nat) (Sh : Sp) (M : Mm) (a0 : Nat) (a1 : Int32) : Option Int32 :=
  fX7_isShown_4 n Sh M a0 a1 1 a1
set_option maxRecDepth 100000 in
set_option maxHeartbeats 4000000 in
theorem kX7_isShown {l : Launch} {G : Gt} {n : Nat} {Sh : Sp} {M : Mm} {a0 : Nat} {a1 : Int32} (hT : Sh a0 = some (.inl 7)) {r : Int32} (h : fX7_isShown n Sh M a0 a1 = some r) : Ct l yX7_isShown cX7_isShown 4 (some .boolean) rmX7_isShown G Sh M [.ref a0, .int a1] (some (.int r)) M := by
  refine Ct.of (by decide) (Nat.le_of_ble_eq_true rfl) ?_
  intro p e s m args below meth c ls C hK hX hP hS hb hlk hr hl
  replace hl : lv_has ls 4 [(0, .ref a0), (1, .int a1)] := hl
  have J4 : ∀ (k : Nat) (v2 : Int32) (v3 : Int32) (H : Heap) (locs : List Loc) (ls : Array Slot), HM G Sh M H → SS G s s.heap.size H locs → lv_has ls 4 [(0, .ref a0), (1, .int a1), (2, .int v2), (3, .int v3)] → iter k (fun s => fX7_isShown_4b n Sh M a0 a1 s.1 s.2) (v2, v3) = some r → W p l e rmX7_isShown s m args below meth c H locs 0 0 (MQ below (QG G Sh M (some (.int r))) args s rmX7_isShown.cells rmX7_isShown.slots (AA G)) (F0 m 4 ls []) := by
    intro k
    induction k with
    | zero => intro v2 v3 H locs ls hP hS hl h; exact (iter_0 h).elim
    | succ k ih1 =>
      intro v2 v3 H locs ls hP hS hl h
      obtain ⟨z1, h, hz1⟩ := iter_some h
      replace h : fX7_isShown_4b n Sh M a0 a1 v2 v3 = some z1 := h
      have J26 : ∀ (v3 : Int32) (t0 : Int32) (H : Heap) (locs : List Loc) (ls : Array Slot), HM G Sh M H → SS G s s.heap.size H locs → lv_has ls 4 [(0, .ref a0), (1, .int a1), (3, .int v3)] → fX7_isShown_26 n Sh M a0 a1 v3 t0 = some z1 → W p l e rmX7_isShown s m args below meth c H locs 0 0 (MQ below (QG G Sh M (some (.int r))) args s rmX7_isShown.cells rmX7_isShown.slots (AA G)) (F0 m 26 ls [.int t0]) := by
        intro v3 t0 H locs ls hP hS hl h
        unfold fX7_isShown_26 at h
        refine lv_istore_n (lv' := [(2, .int t0), (0, .ref a0), (1, .int a1), (3, .int v3)]) C.1 C.2.1 dX7_isShown_26 rfl hl (by decide) rfl (fun ls hl => ?_)
        refine lv_aload_n C.1 C.2.1 dX7_isShown_27 rfl (lv_at hl 1 rfl) ?_
        refine lv_iload_n C.1 C.2.1 dX7_isShown_28 rfl (lv_at hl 3 rfl) ?_
        refine lv_iconst (v := 1) C.1 C.2.1 dX7_isShown_29 (by decide) ?_
        obtain ⟨r1, hc, h⟩ := bS h
        refine r_V1 C hK hX hb hP hS hl.1 (kX7_of (hT) hc) hT cl_7 wd_1197 mo_X7_of wd_1199 wd_24 ⟨Nat.le_of_ble_eq_true rfl, Nat.le_of_ble_eq_true rfl⟩ ⟨Nat.le_of_ble_eq_true rfl, Nat.le_of_ble_eq_true rfl⟩ rfl (rest := []) rfl (Nat.le_of_ble_eq_true rfl) dX7_isShown_30 (fun H locs hP hS => ?_)
        refine lv_istore_n (lv' := [(3, .int r1), (2, .int t0), (0, .ref a0), (1, .int a1)]) C.1 C.2.1 dX7_isShown_33 rfl hl (by decide) rfl (fun ls hl => ?_)
        refine lv_goto (tgt := 4) C.1 C.2.1 dX7_isShown_34 (by decide) ?_
        have e := Option.some.inj h
        rw [← e] at hz1
        exact ih1 (t0) (r1) _ _ _ hP hS (lv_sub hl [2, 3, 1, 0] rfl) (itK_inl hz1)
      have J25 : ∀ (v3 : Int32) (H : Heap) (locs : List Loc) (ls : Array Slot), HM G Sh M H → SS G s s.heap.size H locs → lv_has ls 4 [(0, .ref a0), (1, .int a1), (3, .int v3)] → fX7_isShown_25 n Sh M a0 a1 v3 = some z1 → W p l e rmX7_isShown s m args below meth c H locs 0 0 (MQ below (QG G Sh M (some (.int r))) args s rmX7_isShown.cells rmX7_isShown.slots (AA G)) (F0 m 25 ls []) := by
        intro v3 H locs ls hP hS hl h
        unfold fX7_isShown_25 at h
        refine lv_iconst (v := 0) C.1 C.2.1 dX7_isShown_25 (by decide) ?_
        exact J26 (v3) (0) _ _ _ hP hS (lv_sub hl [0, 1, 2] rfl) h
      unfold fX7_isShown_4b at h
      refine lv_iload_n C.1 C.2.1 dX7_isShown_4 rfl (lv_at hl 3 rfl) ?_
      refine lv_iconst (v := (-1)) C.1 C.2.1 dX7_isShown_5 (by decide) ?_
      refine b_ieq (tgt := 37) C dX7_isShown_6 (by decide) h (fun h => ?_) (fun h => ?_)
      · refine lv_iload_n C.1 C.2.1 dX7_isShown_37 rfl (lv_at hl 2 rfl) ?_
        obtain ⟨hzz, h⟩ := chk_some h
        have e := Option.some.inj h
        rw [← e] at hz1
        replace e := itK_inr hz1
        exact q_z C hlk hP hS hr hzz (by rw [← e]) rfl dX7_isShown_38
      · refine lv_iload_n C.1 C.2.1 dX7_isShown_9 rfl (lv_at hl 2 rfl) ?_
        refine b_eq (tgt := 25) C dX7_isShown_10 (by decide) h (fun h => ?_) (fun h => ?_)
        · exact J25 (v3) _ _ _ hP hS (lv_sub hl [0, 1, 3] rfl) h
        · refine lv_aload_n C.1 C.2.1 dX7_isShown_13 rfl (lv_at hl 0 rfl) ?_
          refine lv_iload_n C.1 C.2.1 dX7_isShown_14 rfl (lv_at hl 3 rfl) ?_
          obtain ⟨r2, hc, h⟩ := bS h
          refine r_V1 C hK hX hb hP hS hl.1 (kX7_isOut (hT) hc) hT cl_7 wd_1260 mo_X7_isOut wd_1262 wd_35 ⟨Nat.le_of_ble_eq_true rfl, Nat.le_of_ble_eq_true rfl⟩ ⟨Nat.le_of_ble_eq_true rfl, Nat.le_of_ble_eq_true rfl⟩ rfl (rest := []) rfl (Nat.le_of_ble_eq_true rfl) dX7_isShown_15 (fun H locs hP hS => ?_)
          refine b_ne (tgt := 25) C dX7_isShown_18 (by decide) h (fun h => ?_) (fun h => ?_)
          · refine lv_iconst (v := 1) C.1 C.2.1 dX7_isShown_21 (by decide) ?_
            refine lv_goto (tgt := 26) C.1 C.2.1 dX7_isShown_22 (by decide) ?_
            exact J26 (v3) (1) _ _ _ hP hS (lv_sub hl [0, 1, 3] rfl) h
          · exact J25 (v3) _ _ _ hP hS (lv_sub hl [0, 1, 3] rfl) h
  unfold fX7_isShown at h
  refine lv_iconst (v := 1) C.1 C.2.1 dX7_isShown_0 (by decide) ?_
  refine lv_istore_n (lv' := [(2, .int 1), (0, .ref a0), (1, .int a1)]) C.1 C.2.1 dX7_isShown_1 rfl hl (by decide) rfl (fun ls hl => ?_)
  refine lv_iload_n C.1 C.2.1 dX7_isShown_2 rfl (lv_at hl 2 rfl) ?_
  refine lv_istore_n (lv' := [(3, .int a1), (2, .int 1), (0, .ref a0), (1, .int a1)]) C.1 C.2.1 dX7_isShown_3 rfl hl (by decide) rfl (fun ls hl => ?_)
  exact J4  n (1) (a1) _ _ _ hP hS (lv_sub hl [2, 3, 1, 0] rfl) h
theorem dX7_detach_0 : decode cX7_detach 0 = .ok (.iconst 0, 1) := by decide +kernel
theorem dX7_detach_1 : decode cX7_detach 1 = .ok (.istore_n 2, 1) := by decide +kernel
theorem dX7_detach_2 : decode cX7_detach 2 = .ok (.iload_n 2, 1) := by decide +kernel
theorem dX7_detach_3 : decode cX7_detach 3 = .ok (.bipush 24, 2) := by decide +kernel
theorem dX7_detach_5 : decode cX7_detach 5 = .ok (.if_icmp .ge 63, 3) := by decide +kernel
theorem dX7_detach_8 : decode cX7_detach 8 = .ok (.aload_n 0, 1) := by decide +kernel
theorem dX7_detach_9 : decode cX7_detach 9 = .ok (.iload_n 2, 1) := by decide +kernel
theorem dX7_detach_10 : decode cX7_detach 10 = .ok (.iconst 0, 1) := by decide +kernel
theorem dX7_detach_11 : decode cX7_detach 11 = .ok (.invokevirtual 40, 3) := by decide +kernel
theorem dX7_detach_14 : decode cX7_detach 14 = .ok (.iconst 1, 1) := by decide +kernel
theorem dX7_detach_15 : decode cX7_detach 15 = .ok (.if_icmp .ne 47, 3) := by decide +kernel
theorem dX7_detach_18 : decode cX7_detach 18 = .ok (.aload_n 0, 1) := by decide +kernel
theorem dX7_detach_19 : decode cX7_detach 19 = .ok (.iload_n 2, 1) := by decide +kernel
theorem dX7_detach_20 : decode cX7_detach 20 = .ok (.iconst 1, 1) := by decide +kernel
theorem dX7_detach_21 : decode cX7_detach 21 = .ok (.invokevirtual 40, 3) := by decide +kernel
theorem dX7_detach_24 : decode cX7_detach 24 = .ok (.aload_n 0, 1) := by decide +kernel
theorem dX7_detach_25 : decode cX7_detach 25 = .ok (.iload_n 1, 1) := by decide +kernel
theorem dX7_detach_26 : decode cX7_detach 26 = .ok (.iconst 1, 1) := by decide +kernel
theorem dX7_detach_27 : decode cX7_detach 27 = .ok (.invokevirtual 40, 3) := by decide +kernel
theorem dX7_detach_30 : decode cX7_detach 30 = .ok (.if_icmp .ne 32, 3) := by decide +kernel
theorem dX7_detach_33 : decode cX7_detach 33 = .ok (.aload_n 0, 1) := by decide +kernel
theorem dX7_detach_34 : decode cX7_detach 34 = .ok (.iload_n 2, 1) := by decide +kernel
theorem dX7_detach_35 : decode cX7_detach 35 = .ok (.iconst 2, 1) := by decide +kernel
theorem dX7_detach_36 : decode cX7_detach 36 = .ok (.invokevirtual 40, 3) := by decide +kernel
theorem dX7_detach_39 : decode cX7_detach 39 = .ok (.aload_n 0, 1) := by decide +kernel
theorem dX7_detach_40 : decode cX7_detach 40 = .ok (.iload_n 1, 1) := by decide +kernel
theorem dX7_detach_41 : decode cX7_detach 41 = .ok (.iconst 2, 1) := by decide +kernel
theorem dX7_detach_42 : decode cX7_detach 42 = .ok (.invokevirtual 40, 3) := by decide +kernel
theorem dX7_detach_45 : decode cX7_detach 45 = .ok (.if_icmp .le 17, 3) := by decide +kernel
theorem dX7_detach_48 : decode cX7_detach 48 = .ok (.aload_n 0, 1) := by decide +kernel
theorem dX7_detach_49 : decode cX7_detach 49 = .ok (.iload_n 2, 1) := by decide +kernel
theorem dX7_detach_50 : decode cX7_detach 50 = .ok (.iconst 2, 1) := by decide +kernel
theorem dX7_detach_51 : decode cX7_detach 51 = .ok (.aload_n 0, 1) := by decide +kernel
theorem dX7_detach_52 : decode cX7_detach 52 = .ok (.iload_n 2, 1) := by decide +kernel
theorem dX7_detach_53 : decode cX7_detach 53 = .ok (.iconst 2, 1) := by decide +kernel
theorem dX7_detach_54 : decode cX7_detach 54 = .ok (.invokevirtual 40, 3) := by decide +kernel
theorem dX7_detach_57 : decode cX7_detach 57 = .ok (.iconst 1, 1) := by decide +kernel
theorem dX7_detach_58 : decode cX7_detach 58 = .ok (.isub, 1) := by decide +kernel
theorem dX7_detach_59 : decode cX7_detach 59 = .ok (.invokevirtual 54, 3) := by decide +kernel
theorem dX7_detach_62 : decode cX7_detach 62 = .ok (.iinc 2 1, 3) := by decide +kernel
theorem dX7_detach_65 : decode cX7_detach 65 = .ok (.goto (-63), 3) := by decide +kernel
theorem dX7_detach_68 : decode cX7_detach 68 = .ok (.return_, 1) := by decide +kernel
abbrev rmX7_detach : Room := { frames := 2, cells := 0, slots := 0, locals := 63 }
noncomputable def fX7_detach_62 (n : Nat) (Sh : Sp) (a0 : Nat) (a1 : Int32) (M : Mm) (v2 : Int32) : Option ((Int32 × Mm) ⊕ Mm) :=
  some (Sum.inl ((v2 + 1), M))
noncomputable def fX7_detach_2b (n : Nat) (Sh : Sp) (a0 : Nat) (a1 : Int32) (M : Mm) (v2 : Int32) : Option ((Int32 × Mm) ⊕ Mm) :=
  if v2 < 24 then
    (fX7_of n Sh M a0 v2 0).bind fun r1 =>
    if r1 = 1 then
      (fX7_of n Sh M a0 v2 1).bind fun r2 =>
      (fX7_of n Sh M a0 a1 1).bind fun r3 =>
      if r2 = r3 then
        (fX7_of n Sh M a0 v2 2).bind fun r4 =>
        (fX7_of n Sh M a0 a1 2).bind fun r5 =>
        if r4 ≤ r5 then
          fX7_detach_62 n Sh a0 a1 M v2
        else
          (fX7_of n Sh M a0 v2 2).bind fun r6 =>
          (fX7_put n Sh M a0 v2 2 (r6 - 1)).bind fun r7 =>
          fX7_detach_62 n Sh a0 a1 r7 v2
      else
        fX7_detach_62 n Sh a0 a1 M v2
    else
      fX7_detach_62 n Sh a0 a1 M v2
  else
    some (Sum.inr M)
noncomputable def fX7_detach_2 (n : Nat) (Sh : Sp) (a0 : Nat) (a1 : Int32) (M : Mm) (v2 : Int32) : Option Mm :=
  iter n (fun s => fX7_detach_2b n Sh a0 a1 s.2 s.1) (v2, M)
noncomputable def fX7_detach (n : Nat) (Sh : Sp) (M : Mm) (a0 : Nat) (a1 : Int32) : Option Mm :=
  fX7_detach_2 n Sh a0 a1 M 0
set_option maxRecDepth 100000 in
set_option maxHeartbeats 4000000 in
theorem kX7_detach {l : Launch} {G : Gt} {n : Nat} {Sh : Sp} {M : Mm} {a0 : Nat} {a1 : Int32} (hT : Sh a0 = some (.inl 7)) {r : Mm} (h : fX7_detach n Sh M a0 a1 = some r) : Ct l yX7_detach cX7_detach 3 none rmX7_detach G Sh M [.ref a0, .int a1] none r := by
  refine Ct.of (by decide) (Nat.le_of_ble_eq_true rfl) ?_
  intro p e s m args below meth c ls C hK hX hP hS hb hlk hr hl
  replace hl : lv_has ls 3 [(0, .ref a0), (1, .int a1)] := hl
  have J2 : ∀ (k : Nat) (v2 : Int32) (M : Mm) (H : Heap) (locs : List Loc) (ls : Array Slot), HM G Sh M H → SS G s s.heap.size H locs → lv_has ls 3 [(0, .ref a0), (1, .int a1), (2, .int v2)] → iter k (fun s => fX7_detach_2b n Sh a0 a1 s.2 s.1) (v2, M) = some r → W p l e rmX7_detach s m args below meth c H locs 0 0 (MQ below (QG G Sh r none) args s rmX7_detach.cells rmX7_detach.slots (AA G)) (F0 m 2 ls []) := by
    intro k
    induction k with
    | zero => intro v2 M H locs ls hP hS hl h; exact (iter_0 h).elim
    | succ k ih1 =>
      intro v2 M H locs ls hP hS hl h
      obtain ⟨z1, h, hz1⟩ := iter_some h
      replace h : fX7_detach_2b n Sh a0 a1 M v2 = some z1 := h
      have J62 : ∀ (M : Mm) (v2 : Int32) (H : Heap) (locs : List Loc) (ls : Array Slot), HM G Sh M H → SS G s s.heap.size H locs → lv_has ls 3 [(0, .ref a0), (1, .int a1), (2, .int v2)] → fX7_detach_62 n Sh a0 a1 M v2 = some z1 → W p l e rmX7_detach s m args below meth c H locs 0 0 (MQ below (QG G Sh r none) args s rmX7_detach.cells rmX7_detach.slots (AA G)) (F0 m 62 ls []) := by
        intro M v2 H locs ls hP hS hl h
        unfold fX7_detach_62 at h
        refine lv_iinc (v := (v2 + 1)) (lv' := [(2, .int (v2 + 1)), (0, .ref a0), (1, .int a1)]) C.1 C.2.1 dX7_detach_62 hl (k := 2) rfl rfl (by decide) rfl (fun ls hl => ?_)
        refine lv_goto (tgt := 2) C.1 C.2.1 dX7_detach_65 (by decide) ?_
        have e := Option.some.inj h
        rw [← e] at hz1
        exact ih1 ((v2 + 1)) M _ _ _ hP hS (lv_sub hl [1, 2, 0] rfl) (itK_inl hz1)
      unfold fX7_detach_2b at h
      refine lv_iload_n C.1 C.2.1 dX7_detach_2 rfl (lv_at hl 2 rfl) ?_
      refine lv_bipush (v := 24) C.1 C.2.1 dX7_detach_3 (by decide) ?_
      refine b_ige (tgt := 68) C dX7_detach_5 (by decide) h (fun h => ?_) (fun h => ?_)
      · refine lv_aload_n C.1 C.2.1 dX7_detach_8 rfl (lv_at hl 0 rfl) ?_
        refine lv_iload_n C.1 C.2.1 dX7_detach_9 rfl (lv_at hl 2 rfl) ?_
        refine lv_iconst (v := 0) C.1 C.2.1 dX7_detach_10 (by decide) ?_
        obtain ⟨r1, hc, h⟩ := bS h
        refine r_V1 C hK hX hb hP hS hl.1 (kX7_of (hT) hc) hT cl_7 wd_1197 mo_X7_of wd_1199 wd_24 ⟨Nat.le_of_ble_eq_true rfl, Nat.le_of_ble_eq_true rfl⟩ ⟨Nat.le_of_ble_eq_true rfl, Nat.le_of_ble_eq_true rfl⟩ rfl (rest := []) rfl (Nat.le_of_ble_eq_true rfl) dX7_detach_11 (fun H locs hP hS => ?_)
        refine lv_iconst (v := 1) C.1 C.2.1 dX7_detach_14 (by decide) ?_
        refine b_ine (tgt := 62) C dX7_detach_15 (by decide) h (fun h => ?_) (fun h => ?_)
        · refine lv_aload_n C.1 C.2.1 dX7_detach_18 rfl (lv_at hl 0 rfl) ?_
          refine lv_iload_n C.1 C.2.1 dX7_detach_19 rfl (lv_at hl 2 rfl) ?_
          refine lv_iconst (v := 1) C.1 C.2.1 dX7_detach_20 (by decide) ?_
          obtain ⟨r2, hc, h⟩ := bS h
          refine r_V1 C hK hX hb hP hS hl.1 (kX7_of (hT) hc) hT cl_7 wd_1197 mo_X7_of wd_1199 wd_24 ⟨Nat.le_of_ble_eq_true rfl, Nat.le_of_ble_eq_true rfl⟩ ⟨Nat.le_of_ble_eq_true rfl, Nat.le_of_ble_eq_true rfl⟩ rfl (rest := []) rfl (Nat.le_of_ble_eq_true rfl) dX7_detach_21 (fun H locs hP hS => ?_)
          refine lv_aload_n C.1 C.2.1 dX7_detach_24 rfl (lv_at hl 0 rfl) ?_
          refine lv_iload_n C.1 C.2.1 dX7_detach_25 rfl (lv_at hl 1 rfl) ?_
          refine lv_iconst (v := 1) C.1 C.2.1 dX7_detach_26 (by decide) ?_
          obtain ⟨r3, hc, h⟩ := bS h
          refine r_V1 C hK hX hb hP hS hl.1 (kX7_of (hT) hc) hT cl_7 wd_1197 mo_X7_of wd_1199 wd_24 ⟨Nat.le_of_ble_eq_true rfl, Nat.le_of_ble_eq_true rfl⟩ ⟨Nat.le_of_ble_eq_true rfl, Nat.le_of_ble_eq_true rfl⟩ rfl (rest := [.int r2]) rfl (Nat.le_of_ble_eq_true rfl) dX7_detach_27 (fun H locs hP hS => ?_)
          refine b_ine (tgt := 62) C dX7_detach_30 (by decide) h (fun h => ?_) (fun h => ?_)
          · refine lv_aload_n C.1 C.2.1 dX7_detach_33 rfl (lv_at hl 0 rfl) ?_
            refine lv_iload_n C.1 C.2.1 dX7_detach_34 rfl (lv_at hl 2 rfl) ?_
            refine lv_iconst (v := 2) C.1 C.2.1 dX7_detach_35 (by decide) ?_
            obtain ⟨r4, hc, h⟩ := bS h
            refine r_V1 C hK hX hb hP hS hl.1 (kX7_of (hT) hc) hT cl_7 wd_1197 mo_X7_of wd_1199 wd_24 ⟨Nat.le_of_ble_eq_true rfl, Nat.le_of_ble_eq_true rfl⟩ ⟨Nat.le_of_ble_eq_true rfl, Nat.le_of_ble_eq_true rfl⟩ rfl (rest := []) rfl (Nat.le_of_ble_eq_true rfl) dX7_detach_36 (fun H locs hP hS => ?_)
            refine lv_aload_n C.1 C.2.1 dX7_detach_39 rfl (lv_at hl 0 rfl) ?_
            refine lv_iload_n C.1 C.2.1 dX7_detach_40 rfl (lv_at hl 1 rfl) ?_
            refine lv_iconst (v := 2) C.1 C.2.1 dX7_detach_41 (by decide) ?_
            obtain ⟨r5, hc, h⟩ := bS h
            refine r_V1 C hK hX hb hP hS hl.1 (kX7_of (hT) hc) hT cl_7 wd_1197 mo_X7_of wd_1199 wd_24 ⟨Nat.le_of_ble_eq_true rfl, Nat.le_of_ble_eq_true rfl⟩ ⟨Nat.le_of_ble_eq_true rfl, Nat.le_of_ble_eq_true rfl⟩ rfl (rest := [.int r4]) rfl (Nat.le_of_ble_eq_true rfl) dX7_detach_42 (fun H locs hP hS => ?_)
            refine b_ile (tgt := 62) C dX7_detach_45 (by decide) h (fun h => ?_) (fun h => ?_)
            · exact J62 (M) (v2) _ _ _ hP hS (lv_sub hl [0, 1, 2] rfl) h
            · refine lv_aload_n C.1 C.2.1 dX7_detach_48 rfl (lv_at hl 0 rfl) ?_
              refine lv_iload_n C.1 C.2.1 dX7_detach_49 rfl (lv_at hl 2 rfl) ?_
              refine lv_iconst (v := 2) C.1 C.2.1 dX7_detach_50 (by decide) ?_
              refine lv_aload_n C.1 C.2.1 dX7_detach_51 rfl (lv_at hl 0 rfl) ?_
              refine lv_iload_n C.1 C.2.1 dX7_detach_52 rfl (lv_at hl 2 rfl) ?_
              refine lv_iconst (v := 2) C.1 C.2.1 dX7_detach_53 (by decide) ?_
              obtain ⟨r6, hc, h⟩ := bS h
              refine r_V1 C hK hX hb hP hS hl.1 (kX7_of (hT) hc) hT cl_7 wd_1197 mo_X7_of wd_1199 wd_24 ⟨Nat.le_of_ble_eq_true rfl, Nat.le_of_ble_eq_true rfl⟩ ⟨Nat.le_of_ble_eq_true rfl, Nat.le_of_ble_eq_true rfl⟩ rfl (rest := [.int 2, .int v2, .ref a0]) rfl (Nat.le_of_ble_eq_true rfl) dX7_detach_54 (fun H locs hP hS => ?_)
              refine lv_iconst (v := 1) C.1 C.2.1 dX7_detach_57 (by decide) ?_
              refine lv_isub C.1 C.2.1 dX7_detach_58 ?_
              obtain ⟨r7, hc, h⟩ := bS h
              refine r_V0 C hK hX hb hP hS hl.1 (kX7_put (hT) hc) hT cl_7 wd_1213 mo_X7_put wd_1215 wd_28 ⟨Nat.le_of_ble_eq_true rfl, Nat.le_of_ble_eq_true rfl⟩ ⟨Nat.le_of_ble_eq_true rfl, Nat.le_of_ble_eq_true rfl⟩ rfl (rest := []) rfl (Nat.le_of_ble_eq_true rfl) dX7_detach_59 (fun H locs hP hS => ?_)
              exact J62 (r7) (v2) _ _ _ hP hS (lv_sub hl [0, 1, 2] rfl) h
          · exact J62 (M) (v2) _ _ _ hP hS (lv_sub hl [0, 1, 2] rfl) h
        · exact J62 (M) (v2) _ _ _ hP hS (lv_sub hl [0, 1, 2] rfl) h
      · have e := Option.some.inj h
        rw [← e] at hz1
        replace e := itK_inr hz1
        exact q_v C hlk hP hS hr rfl e.symm dX7_detach_68
  unfold fX7_detach at h
  refine lv_iconst (v := 0) C.1 C.2.1 dX7_detach_0 (by decide) ?_
  refine lv_istore_n (lv' := [(2, .int 0), (0, .ref a0), (1, .int a1)]) C.1 C.2.1 dX7_detach_1 rfl hl (by decide) rfl (fun ls hl => ?_)
  exact J2  n (0) M _ _ _ hP hS (lv_sub hl [1, 2, 0] rfl) h
theorem dX7_attach_0 : decode cX7_attach 0 = .ok (.iconst 0, 1) := by decide +kernel
theorem dX7_attach_1 : decode cX7_attach 1 = .ok (.istore 4, 2) := by decide +kernel
theorem dX7_attach_3 : decode cX7_attach 3 = .ok (.iload 4, 2) := by decide +kernel
theorem dX7_attach_5 : decode cX7_attach 5 = .ok (.bipush 24, 2) := by decide +kernel
theorem dX7_attach_7 : decode cX7_attach 7 = .ok (.if_icmp .ge 64, 3) := by decide +kernel
theorem dX7_attach_10 : decode cX7_attach 10 = .ok (.iload 4, 2) := by decide +kernel
theorem dX7_attach_12 : decode cX7_attach 12 = .ok (.iload_n 1, 1) := by decide +kernel
theorem dX7_attach_13 : decode cX7_attach 13 = .ok (.if_icmp .eq 52, 3) := by decide +kernel
theorem dX7_attach_16 : decode cX7_attach 16 = .ok (.aload_n 0, 1) := by decide +kernel
theorem dX7_attach_17 : decode cX7_attach 17 = .ok (.iload 4, 2) := by decide +kernel
theorem dX7_attach_19 : decode cX7_attach 19 = .ok (.iconst 0, 1) := by decide +kernel
theorem dX7_attach_20 : decode cX7_attach 20 = .ok (.invokevirtual 40, 3) := by decide +kernel
theorem dX7_attach_23 : decode cX7_attach 23 = .ok (.iconst 1, 1) := by decide +kernel
theorem dX7_attach_24 : decode cX7_attach 24 = .ok (.if_icmp .ne 41, 3) := by decide +kernel
theorem dX7_attach_27 : decode cX7_attach 27 = .ok (.aload_n 0, 1) := by decide +kernel
theorem dX7_attach_28 : decode cX7_attach 28 = .ok (.iload 4, 2) := by decide +kernel
theorem dX7_attach_30 : decode cX7_attach 30 = .ok (.iconst 1, 1) := by decide +kernel
theorem dX7_attach_31 : decode cX7_attach 31 = .ok (.invokevirtual 40, 3) := by decide +kernel
theorem dX7_attach_34 : decode cX7_attach 34 = .ok (.iload_n 2, 1) := by decide +kernel
theorem dX7_attach_35 : decode cX7_attach 35 = .ok (.if_icmp .ne 30, 3) := by decide +kernel
theorem dX7_attach_38 : decode cX7_attach 38 = .ok (.aload_n 0, 1) := by decide +kernel
theorem dX7_attach_39 : decode cX7_attach 39 = .ok (.iload 4, 2) := by decide +kernel
theorem dX7_attach_41 : decode cX7_attach 41 = .ok (.iconst 2, 1) := by decide +kernel
theorem dX7_attach_42 : decode cX7_attach 42 = .ok (.invokevirtual 40, 3) := by decide +kernel
theorem dX7_attach_45 : decode cX7_attach 45 = .ok (.iload_n 3, 1) := by decide +kernel
theorem dX7_attach_46 : decode cX7_attach 46 = .ok (.if_icmp .lt 19, 3) := by decide +kernel
theorem dX7_attach_49 : decode cX7_attach 49 = .ok (.aload_n 0, 1) := by decide +kernel
theorem dX7_attach_50 : decode cX7_attach 50 = .ok (.iload 4, 2) := by decide +kernel
theorem dX7_attach_52 : decode cX7_attach 52 = .ok (.iconst 2, 1) := by decide +kernel
theorem dX7_attach_53 : decode cX7_attach 53 = .ok (.aload_n 0, 1) := by decide +kernel
theorem dX7_attach_54 : decode cX7_attach 54 = .ok (.iload 4, 2) := by decide +kernel
theorem dX7_attach_56 : decode cX7_attach 56 = .ok (.iconst 2, 1) := by decide +kernel
theorem dX7_attach_57 : decode cX7_attach 57 = .ok (.invokevirtual 40, 3) := by decide +kernel
theorem dX7_attach_60 : decode cX7_attach 60 = .ok (.iconst 1, 1) := by decide +kernel
theorem dX7_attach_61 : decode cX7_attach 61 = .ok (.iadd, 1) := by decide +kernel
theorem dX7_attach_62 : decode cX7_attach 62 = .ok (.invokevirtual 54, 3) := by decide +kernel
theorem dX7_attach_65 : decode cX7_attach 65 = .ok (.iinc 4 1, 3) := by decide +kernel
theorem dX7_attach_68 : decode cX7_attach 68 = .ok (.goto (-65), 3) := by decide +kernel
theorem dX7_attach_71 : decode cX7_attach 71 = .ok (.aload_n 0, 1) := by decide +kernel
theorem dX7_attach_72 : decode cX7_attach 72 = .ok (.iload_n 1, 1) := by decide +kernel
theorem dX7_attach_73 : decode cX7_attach 73 = .ok (.iconst 1, 1) := by decide +kernel
theorem dX7_attach_74 : decode cX7_attach 74 = .ok (.iload_n 2, 1) := by decide +kernel
theorem dX7_attach_75 : decode cX7_attach 75 = .ok (.invokevirtual 54, 3) := by decide +kernel
theorem dX7_attach_78 : decode cX7_attach 78 = .ok (.aload_n 0, 1) := by decide +kernel
theorem dX7_attach_79 : decode cX7_attach 79 = .ok (.iload_n 1, 1) := by decide +kernel
theorem dX7_attach_80 : decode cX7_attach 80 = .ok (.iconst 2, 1) := by decide +kernel
theorem dX7_attach_81 : decode cX7_attach 81 = .ok (.iload_n 3, 1) := by decide +kernel
theorem dX7_attach_82 : decode cX7_attach 82 = .ok (.invokevirtual 54, 3) := by decide +kernel
theorem dX7_attach_85 : decode cX7_attach 85 = .ok (.return_, 1) := by decide +kernel
abbrev rmX7_attach : Room := { frames := 2, cells := 0, slots := 0, locals := 63 }
noncomputable def fX7_attach_71 (n : Nat) (Sh : Sp) (a0 : Nat) (a1 : Int32) (a2 : Int32) (a3 : Int32) (M : Mm) : Option Mm :=
  (fX7_put n Sh M a0 a1 1 a2).bind fun r1 =>
  (fX7_put n Sh r1 a0 a1 2 a3).bind fun r2 =>
  some r2
noncomputable def fX7_attach_65 (n : Nat) (Sh : Sp) (a0 : Nat) (a1 : Int32) (a2 : Int32) (a3 : Int32) (M : Mm) (v4 : Int32) : Option ((Int32 × Mm) ⊕ Mm) :=
  some (Sum.inl ((v4 + 1), M))
noncomputable def fX7_attach_3b (n : Nat) (Sh : Sp) (a0 : Nat) (a1 : Int32) (a2 : Int32) (a3 : Int32) (M : Mm) (v4 : Int32) : Option ((Int32 × Mm) ⊕ Mm) :=
  if v4 < 24 then
    if v4 = a1 then
      fX7_attach_65 n Sh a0 a1 a2 a3 M v4
    else
      (fX7_of n Sh M a0 v4 0).bind fun r3 =>
      if r3 = 1 then
        (fX7_of n Sh M a0 v4 1).bind fun r4 =>
        if r4 = a2 then
          (fX7_of n Sh M a0 v4 2).bind fun r5 =>
          if r5 < a3 then
            fX7_attach_65 n Sh a0 a1 a2 a3 M v4
          else
            (fX7_of n Sh M a0 v4 2).bind fun r6 =>
            (fX7_put n Sh M a0 v4 2 (r6 + 1)).bind fun r7 =>
            fX7_attach_65 n Sh a0 a1 a2 a3 r7 v4
        else
          fX7_attach_65 n Sh a0 a1 a2 a3 M v4
      else
        fX7_attach_65 n Sh a0 a1 a2 a3 M v4
  else
    (fX7_attach_71 n Sh a0 a1 a2 a3 M).map Sum.inr
noncomputable def fX7_attach_3 (n : Nat) (Sh : Sp) (a0 : Nat) (a1 : Int32) (a2 : Int32) (a3 : Int32) (M : Mm) (v4 : Int32) : Option Mm :=
  iter n (fun s => fX7_attach_3b n Sh a0 a1 a2 a3 s.2 s.1) (v4, M)
noncomputable def fX7_attach (n : Nat) (Sh : Sp) (M : Mm) (a0 : Nat) (a1 : Int32) (a2 : Int32) (a3 : Int32) : Option Mm :=
  fX7_attach_3 n Sh a0 a1 a2 a3 M 0
set_option maxRecDepth 100000 in
set_option maxHeartbeats 4000000 in
theorem kX7_attach {l : Launch} {G : Gt} {n : Nat} {Sh : Sp} {M : Mm} {a0 : Nat} {a1 : Int32} {a2 : Int32} {a3 : Int32} (hT : Sh a0 = some (.inl 7)) {r : Mm} (h : fX7_attach n Sh M a0 a1 a2 a3 = some r) : Ct l yX7_attach cX7_attach 5 none rmX7_attach G Sh M [.ref a0, .int a1, .int a2, .int a3] none r := by
  refine Ct.of (by decide) (Nat.le_of_ble_eq_true rfl) ?_
  intro p e s m args below meth c ls C hK hX hP hS hb hlk hr hl
  replace hl : lv_has ls 5 [(0, .ref a0), (1, .int a1), (2, .int a2), (3, .int a3)] := hl
  have J71 : ∀ (M : Mm) (H : Heap) (locs : List Loc) (ls : Array Slot), HM G Sh M H → SS G s s.heap.size H locs → lv_has ls 5 [(0, .ref a0), (1, .int a1), (2, .int a2), (3, .int a3)] → fX7_attach_71 n Sh a0 a1 a2 a3 M = some r → W p l e rmX7_attach s m args below meth c H locs 0 0 (MQ below (QG G Sh r none) args s rmX7_attach.cells rmX7_attach.slots (AA G)) (F0 m 71 ls []) := by
    intro M H locs ls hP hS hl h
    unfold fX7_attach_71 at h
    refine lv_aload_n C.1 C.2.1 dX7_attach_71 rfl (lv_at hl 0 rfl) ?_
    refine lv_iload_n C.1 C.2.1 dX7_attach_72 rfl (lv_at hl 1 rfl) ?_
    refine lv_iconst (v := 1) C.1 C.2.1 dX7_attach_73 (by decide) ?_
    refine lv_iload_n C.1 C.2.1 dX7_attach_74 rfl (lv_at hl 2 rfl) ?_
    obtain ⟨r1, hc, h⟩ := bS h
    refine r_V0 C hK hX hb hP hS hl.1 (kX7_put (hT) hc) hT cl_7 wd_1213 mo_X7_put wd_1215 wd_28 ⟨Nat.le_of_ble_eq_true rfl, Nat.le_of_ble_eq_true rfl⟩ ⟨Nat.le_of_ble_eq_true rfl, Nat.le_of_ble_eq_true rfl⟩ rfl (rest := []) rfl (Nat.le_of_ble_eq_true rfl) dX7_attach_75 (fun H locs hP hS => ?_)
    refine lv_aload_n C.1 C.2.1 dX7_attach_78 rfl (lv_at hl 0 rfl) ?_
    refine lv_iload_n C.1 C.2.1 dX7_attach_79 rfl (lv_at hl 1 rfl) ?_
    refine lv_iconst (v := 2) C.1 C.2.1 dX7_attach_80 (by decide) ?_
    refine lv_iload_n C.1 C.2.1 dX7_attach_81 rfl (lv_at hl 3 rfl) ?_
    obtain ⟨r2, hc, h⟩ := bS h
    refine r_V0 C hK hX hb hP hS hl.1 (kX7_put (hT) hc) hT cl_7 wd_1213 mo_X7_put wd_1215 wd_28 ⟨Nat.le_of_ble_eq_true rfl, Nat.le_of_ble_eq_true rfl⟩ ⟨Nat.le_of_ble_eq_true rfl, Nat.le_of_ble_eq_true rfl⟩ rfl (rest := []) rfl (Nat.le_of_ble_eq_true rfl) dX7_attach_82 (fun H locs hP hS => ?_)
    have e := Option.some.inj h
    exact q_v C hlk hP hS hr rfl e.symm dX7_attach_85
  have J3 : ∀ (k : Nat) (v4 : Int32) (M : Mm) (H : Heap) (locs : List Loc) (ls : Array Slot), HM G Sh M H → SS G s s.heap.size H locs → lv_has ls 5 [(0, .ref a0), (1, .int a1), (2, .int a2), (3, .int a3), (4, .int v4)] → iter k (fun s => fX7_attach_3b n Sh a0 a1 a2 a3 s.2 s.1) (v4, M) = some r → W p l e rmX7_attach s m args below meth c H locs 0 0 (MQ below (QG G Sh r none) args s rmX7_attach.cells rmX7_attach.slots (AA G)) (F0 m 3 ls []) := by
    intro k
    induction k with
    | zero => intro v4 M H locs ls hP hS hl h; exact (iter_0 h).elim
    | succ k ih1 =>
      intro v4 M H locs ls hP hS hl h
      obtain ⟨z1, h, hz1⟩ := iter_some h
      replace h : fX7_attach_3b n Sh a0 a1 a2 a3 M v4 = some z1 := h
      have J65 : ∀ (M : Mm) (v4 : Int32) (H : Heap) (locs : List Loc) (ls : Array Slot), HM G Sh M H → SS G s s.heap.size H locs → lv_has ls 5 [(0, .ref a0), (1, .int a1), (2, .int a2), (3, .int a3), (4, .int v4)] → fX7_attach_65 n Sh a0 a1 a2 a3 M v4 = some z1 → W p l e rmX7_attach s m args below meth c H locs 0 0 (MQ below (QG G Sh r none) args s rmX7_attach.cells rmX7_attach.slots (AA G)) (F0 m 65 ls []) := by
        intro M v4 H locs ls hP hS hl h
        unfold fX7_attach_65 at h
        refine lv_iinc (v := (v4 + 1)) (lv' := [(4, .int (v4 + 1)), (0, .ref a0), (1, .int a1), (2, .int a2), (3, .int a3)]) C.1 C.2.1 dX7_attach_65 hl (k := 4) rfl rfl (by decide) rfl (fun ls hl => ?_)
        refine lv_goto (tgt := 3) C.1 C.2.1 dX7_attach_68 (by decide) ?_
        have e := Option.some.inj h
        rw [← e] at hz1
        exact ih1 ((v4 + 1)) M _ _ _ hP hS (lv_sub hl [1, 2, 3, 4, 0] rfl) (itK_inl hz1)
      unfold fX7_attach_3b at h
      refine lv_iload C.1 C.2.1 dX7_attach_3 (lv_at hl 4 rfl) ?_
      refine lv_bipush (v := 24) C.1 C.2.1 dX7_attach_5 (by decide) ?_
      refine b_ige (tgt := 71) C dX7_attach_7 (by decide) h (fun h => ?_) (fun h => ?_)
      · refine lv_iload C.1 C.2.1 dX7_attach_10 (lv_at hl 4 rfl) ?_
        refine lv_iload_n C.1 C.2.1 dX7_attach_12 rfl (lv_at hl 1 rfl) ?_
        refine b_ieq (tgt := 65) C dX7_attach_13 (by decide) h (fun h => ?_) (fun h => ?_)
        · exact J65 (M) (v4) _ _ _ hP hS (lv_sub hl [0, 1, 2, 3, 4] rfl) h
        · refine lv_aload_n C.1 C.2.1 dX7_attach_16 rfl (lv_at hl 0 rfl) ?_
          refine lv_iload C.1 C.2.1 dX7_attach_17 (lv_at hl 4 rfl) ?_
          refine lv_iconst (v := 0) C.1 C.2.1 dX7_attach_19 (by decide) ?_
          obtain ⟨r3, hc, h⟩ := bS h
          refine r_V1 C hK hX hb hP hS hl.1 (kX7_of (hT) hc) hT cl_7 wd_1197 mo_X7_of wd_1199 wd_24 ⟨Nat.le_of_ble_eq_true rfl, Nat.le_of_ble_eq_true rfl⟩ ⟨Nat.le_of_ble_eq_true rfl, Nat.le_of_ble_eq_true rfl⟩ rfl (rest := []) rfl (Nat.le_of_ble_eq_true rfl) dX7_attach_20 (fun H locs hP hS => ?_)
          refine lv_iconst (v := 1) C.1 C.2.1 dX7_attach_23 (by decide) ?_
          refine b_ine (tgt := 65) C dX7_attach_24 (by decide) h (fun h => ?_) (fun h => ?_)
          · refine lv_aload_n C.1 C.2.1 dX7_attach_27 rfl (lv_at hl 0 rfl) ?_
            refine lv_iload C.1 C.2.1 dX7_attach_28 (lv_at hl 4 rfl) ?_
            refine lv_iconst (v := 1) C.1 C.2.1 dX7_attach_30 (by decide) ?_
            obtain ⟨r4, hc, h⟩ := bS h
            refine r_V1 C hK hX hb hP hS hl.1 (kX7_of (hT) hc) hT cl_7 wd_1197 mo_X7_of wd_1199 wd_24 ⟨Nat.le_of_ble_eq_true rfl, Nat.le_of_ble_eq_true rfl⟩ ⟨Nat.le_of_ble_eq_true rfl, Nat.le_of_ble_eq_true rfl⟩ rfl (rest := []) rfl (Nat.le_of_ble_eq_true rfl) dX7_attach_31 (fun H locs hP hS => ?_)
            refine lv_iload_n C.1 C.2.1 dX7_attach_34 rfl (lv_at hl 2 rfl) ?_
            refine b_ine (tgt := 65) C dX7_attach_35 (by decide) h (fun h => ?_) (fun h => ?_)
            · refine lv_aload_n C.1 C.2.1 dX7_attach_38 rfl (lv_at hl 0 rfl) ?_
              refine lv_iload C.1 C.2.1 dX7_attach_39 (lv_at hl 4 rfl) ?_
              refine lv_iconst (v := 2) C.1 C.2.1 dX7_attach_41 (by decide) ?_
              obtain ⟨r5, hc, h⟩ := bS h
              refine r_V1 C hK hX hb hP hS hl.1 (kX7_of (hT) hc) hT cl_7 wd_1197 mo_X7_of wd_1199 wd_24 ⟨Nat.le_of_ble_eq_true rfl, Nat.le_of_ble_eq_true rfl⟩ ⟨Nat.le_of_ble_eq_true rfl, Nat.le_of_ble_eq_true rfl⟩ rfl (rest := []) rfl (Nat.le_of_ble_eq_true rfl) dX7_attach_42 (fun H locs hP hS => ?_)
              refine lv_iload_n C.1 C.2.1 dX7_attach_45 rfl (lv_at hl 3 rfl) ?_
              refine b_ilt (tgt := 65) C dX7_attach_46 (by decide) h (fun h => ?_) (fun h => ?_)
              · exact J65 (M) (v4) _ _ _ hP hS (lv_sub hl [0, 1, 2, 3, 4] rfl) h
              · refine lv_aload_n C.1 C.2.1 dX7_attach_49 rfl (lv_at hl 0 rfl) ?_
                refine lv_iload C.1 C.2.1 dX7_attach_50 (lv_at hl 4 rfl) ?_
                refine lv_iconst (v := 2) C.1 C.2.1 dX7_attach_52 (by decide) ?_
                refine lv_aload_n C.1 C.2.1 dX7_attach_53 rfl (lv_at hl 0 rfl) ?_
                refine lv_iload C.1 C.2.1 dX7_attach_54 (lv_at hl 4 rfl) ?_
                refine lv_iconst (v := 2) C.1 C.2.1 dX7_attach_56 (by decide) ?_
                obtain ⟨r6, hc, h⟩ := bS h
                refine r_V1 C hK hX hb hP hS hl.1 (kX7_of (hT) hc) hT cl_7 wd_1197 mo_X7_of wd_1199 wd_24 ⟨Nat.le_of_ble_eq_true rfl, Nat.le_of_ble_eq_true rfl⟩ ⟨Nat.le_of_ble_eq_true rfl, Nat.le_of_ble_eq_true rfl⟩ rfl (rest := [.int 2, .int v4, .ref a0]) rfl (Nat.le_of_ble_eq_true rfl) dX7_attach_57 (fun H locs hP hS => ?_)
                refine lv_iconst (v := 1) C.1 C.2.1 dX7_attach_60 (by decide) ?_
                refine lv_iadd C.1 C.2.1 dX7_attach_61 ?_
                obtain ⟨r7, hc, h⟩ := bS h
                refine r_V0 C hK hX hb hP hS hl.1 (kX7_put (hT) hc) hT cl_7 wd_1213 mo_X7_put wd_1215 wd_28 ⟨Nat.le_of_ble_eq_true rfl, Nat.le_of_ble_eq_true rfl⟩ ⟨Nat.le_of_ble_eq_true rfl, Nat.le_of_ble_eq_true rfl⟩ rfl (rest := []) rfl (Nat.le_of_ble_eq_true rfl) dX7_attach_62 (fun H locs hP hS => ?_)
                exact J65 (r7) (v4) _ _ _ hP hS (lv_sub hl [0, 1, 2, 3, 4] rfl) h
            · exact J65 (M) (v4) _ _ _ hP hS (lv_sub hl [0, 1, 2, 3, 4] rfl) h
          · exact J65 (M) (v4) _ _ _ hP hS (lv_sub hl [0, 1, 2, 3, 4] rfl) h
      · obtain ⟨w1, h, e⟩ := mS h
        rw [← e] at hz1
        replace e := itK_inr hz1
        rw [e] at h
        exact J71 (M) _ _ _ hP hS (lv_sub hl [0, 1, 2, 3] rfl) h
  unfold fX7_attach at h
  refine lv_iconst (v := 0) C.1 C.2.1 dX7_attach_0 (by decide) ?_
  refine lv_istore (lv' := [(4, .int 0), (0, .ref a0), (1, .int a1), (2, .int a2), (3, .int a3)]) C.1 C.2.1 dX7_attach_1 hl (by decide) rfl (fun ls hl => ?_)
  exact J3  n (0) M _ _ _ hP hS (lv_sub hl [1, 2, 3, 4, 0] rfl) h
theorem dX7_lays_0 : decode cX7_lays 0 = .ok (.iload_n 2, 1) := by decide +kernel
theorem dX7_lays_1 : decode cX7_lays 1 = .ok (.ifCond .le 31, 3) := by decide +kernel
theorem dX7_lays_4 : decode cX7_lays 4 = .ok (.aload_n 0, 1) := by decide +kernel
theorem dX7_lays_5 : decode cX7_lays 5 = .ok (.getfield 58, 3) := by decide +kernel
theorem dX7_lays_8 : decode cX7_lays 8 = .ok (.ifCond .le 24, 3) := by decide +kernel
theorem dX7_lays_11 : decode cX7_lays 11 = .ok (.aload_n 0, 1) := by decide +kernel
theorem dX7_lays_12 : decode cX7_lays 12 = .ok (.getfield 19, 3) := by decide +kernel
theorem dX7_lays_15 : decode cX7_lays 15 = .ok (.aload_n 0, 1) := by decide +kernel
theorem dX7_lays_16 : decode cX7_lays 16 = .ok (.getfield 58, 3) := by decide +kernel
theorem dX7_lays_19 : decode cX7_lays 19 = .ok (.bipush 32, 2) := by decide +kernel
theorem dX7_lays_21 : decode cX7_lays 21 = .ok (.iastore, 1) := by decide +kernel
theorem dX7_lays_22 : decode cX7_lays 22 = .ok (.aload_n 0, 1) := by decide +kernel
theorem dX7_lays_23 : decode cX7_lays 23 = .ok (.dup, 1) := by decide +kernel
theorem dX7_lays_24 : decode cX7_lays 24 = .ok (.getfield 58, 3) := by decide +kernel
theorem dX7_lays_27 : decode cX7_lays 27 = .ok (.iconst 1, 1) := by decide +kernel
theorem dX7_lays_28 : decode cX7_lays 28 = .ok (.iadd, 1) := by decide +kernel
theorem dX7_lays_29 : decode cX7_lays 29 = .ok (.putfield 58, 3) := by decide +kernel
theorem dX7_lays_32 : decode cX7_lays 32 = .ok (.iconst 0, 1) := by decide +kernel
theorem dX7_lays_33 : decode cX7_lays 33 = .ok (.istore_n 3, 1) := by decide +kernel
theorem dX7_lays_34 : decode cX7_lays 34 = .ok (.iload_n 3, 1) := by decide +kernel
theorem dX7_lays_35 : decode cX7_lays 35 = .ok (.iload_n 2, 1) := by decide +kernel
theorem dX7_lays_36 : decode cX7_lays 36 = .ok (.if_icmp .ge 36, 3) := by decide +kernel
theorem dX7_lays_39 : decode cX7_lays 39 = .ok (.aload_n 0, 1) := by decide +kernel
theorem dX7_lays_40 : decode cX7_lays 40 = .ok (.getfield 19, 3) := by decide +kernel
theorem dX7_lays_43 : decode cX7_lays 43 = .ok (.aload_n 0, 1) := by decide +kernel
theorem dX7_lays_44 : decode cX7_lays 44 = .ok (.getfield 58, 3) := by decide +kernel
theorem dX7_lays_47 : decode cX7_lays 47 = .ok (.aload_n 0, 1) := by decide +kernel
theorem dX7_lays_48 : decode cX7_lays 48 = .ok (.getfield 7, 3) := by decide +kernel
theorem dX7_lays_51 : decode cX7_lays 51 = .ok (.iload_n 1, 1) := by decide +kernel
theorem dX7_lays_52 : decode cX7_lays 52 = .ok (.iload_n 3, 1) := by decide +kernel
theorem dX7_lays_53 : decode cX7_lays 53 = .ok (.iadd, 1) := by decide +kernel
theorem dX7_lays_54 : decode cX7_lays 54 = .ok (.iaload, 1) := by decide +kernel
theorem dX7_lays_55 : decode cX7_lays 55 = .ok (.iastore, 1) := by decide +kernel
theorem dX7_lays_56 : decode cX7_lays 56 = .ok (.aload_n 0, 1) := by decide +kernel
theorem dX7_lays_57 : decode cX7_lays 57 = .ok (.dup, 1) := by decide +kernel
theorem dX7_lays_58 : decode cX7_lays 58 = .ok (.getfield 58, 3) := by decide +kernel
theorem dX7_lays_61 : decode cX7_lays 61 = .ok (.iconst 1, 1) := by decide +kernel
theorem dX7_lays_62 : decode cX7_lays 62 = .ok (.iadd, 1) := by decide +kernel
theorem dX7_lays_63 : decode cX7_lays 63 = .ok (.putfield 58, 3) := by decide +kernel
theorem dX7_lays_66 : decode cX7_lays 66 = .ok (.iinc 3 1, 3) := by decide +kernel
theorem dX7_lays_69 : decode cX7_lays 69 = .ok (.goto (-35), 3) := by decide +kernel
theorem dX7_lays_72 : decode cX7_lays 72 = .ok (.return_, 1) := by decide +kernel
abbrev rmX7_lays : Room := { frames := 1, cells := 0, slots := 0, locals := 40 }
noncomputable def fX7_lays_34b (n : Nat) (Sh : Sp) (a0 : Nat) (a1 : Int32) (a2 : Int32) (M : Mm) (v3 : Int32) : Option ((Int32 × Mm) ⊕ Mm) :=
  if v3 < a2 then
    tF M a0 6 fun b1 =>
    tI M a0 7 fun x2 =>
    tF M a0 0 fun b3 =>
    aI Sh M b3 0 (a1 + v3) fun x4 =>
    sI Sh M b1 x2 x4 fun M5 =>
    tI M5 a0 7 fun x6 =>
    qI M5 a0 7 (x6 + 1) fun M7 =>
    some (Sum.inl ((v3 + 1), M7))
  else
    some (Sum.inr M)
noncomputable def fX7_lays_34 (n : Nat) (Sh : Sp) (a0 : Nat) (a1 : Int32) (a2 : Int32) (M : Mm) (v3 : Int32) : Option Mm :=
  iter n (fun s => fX7_lays_34b n Sh a0 a1 a2 s.2 s.1) (v3, M)
noncomputable def fX7_lays_32 (n : Nat) (Sh : Sp) (a0 : Nat) (a1 : Int32) (a2 : Int32) (M : Mm) : Option Mm :=
  fX7_lays_34 n Sh a0 a1 a2 M 0
noncomputable def fX7_lays (n : Nat) (Sh : Sp) (M : Mm) (a0 : Nat) (a1 : Int32) (a2 : Int32) : Option Mm :=
  if a2 ≤ 0 then
    fX7_lays_32 n Sh a0 a1 a2 M
  else
    tI M a0 7 fun x8 =>
    if x8 ≤ 0 then
      fX7_lays_32 n Sh a0 a1 a2 M
    else
      tF M a0 6 fun b9 =>
      tI M a0 7 fun x10 =>
      sI Sh M b9 x10 32 fun M11 =>
      tI M11 a0 7 fun x12 =>
      qI M11 a0 7 (x12 + 1) fun M13 =>
      fX7_lays_32 n Sh a0 a1 a2 M13
set_option maxRecDepth 100000 in
set_option maxHeartbeats 4000000 in
theorem kX7_lays {l : Launch} {G : Gt} {n : Nat} {Sh : Sp} {M : Mm} {a0 : Nat} {a1 : Int32} {a2 : Int32} (hT : Sh a0 = some (.inl 7)) {r : Mm} (h : fX7_lays n Sh M a0 a1 a2 = some r) : Ct l yX7_lays cX7_lays 4 none rmX7_lays G Sh M [.ref a0, .int a1, .int a2] none r := by
  refine Ct.of (by decide) (Nat.le_of_ble_eq_true rfl) ?_
  intro p e s m args below meth c ls C hK hX hP hS hb hlk hr hl
  replace hl : lv_has ls 4 [(0, .ref a0), (1, .int a1), (2, .int a2)] := hl
  have J34 : ∀ (k : Nat) (v3 : Int32) (M : Mm) (H : Heap) (locs : List Loc) (ls : Array Slot), HM G Sh M H → SS G s s.heap.size H locs → lv_has ls 4 [(0, .ref a0), (1, .int a1), (2, .int a2), (3, .int v3)] → iter k (fun s => fX7_lays_34b n Sh a0 a1 a2 s.2 s.1) (v3, M) = some r → W p l e rmX7_lays s m args below meth c H locs 0 0 (MQ below (QG G Sh r none) args s rmX7_lays.cells rmX7_lays.slots (AA G)) (F0 m 34 ls []) := by
    intro k
    induction k with
    | zero => intro v3 M H locs ls hP hS hl h; exact (iter_0 h).elim
    | succ k ih1 =>
      intro v3 M H locs ls hP hS hl h
      obtain ⟨z1, h, hz1⟩ := iter_some h
      replace h : fX7_lays_34b n Sh a0 a1 a2 M v3 = some z1 := h
      unfold fX7_lays_34b at h
      refine lv_iload_n C.1 C.2.1 dX7_lays_34 rfl (lv_at hl 3 rfl) ?_
      refine lv_iload_n C.1 C.2.1 dX7_lays_35 rfl (lv_at hl 2 rfl) ?_
      refine b_ige (tgt := 72) C dX7_lays_36 (by decide) h (fun h => ?_) (fun h => ?_)
      · refine lv_aload_n C.1 C.2.1 dX7_lays_39 rfl (lv_at hl 0 rfl) ?_
        refine r_tF C hK hP hT cl_7 (k := 6) (by decide) wd_1150 rfl dX7_lays_40 h (fun b1 h => ?_)
        refine lv_aload_n C.1 C.2.1 dX7_lays_43 rfl (lv_at hl 0 rfl) ?_
        refine r_tI C hK hP hT cl_7 (k := 7) (by decide) wd_1151 rfl dX7_lays_44 h (fun x2 h => ?_)
        refine lv_aload_n C.1 C.2.1 dX7_lays_47 rfl (lv_at hl 0 rfl) ?_
        refine r_tF C hK hP hT cl_7 (k := 0) (by decide) wd_1144 rfl dX7_lays_48 h (fun b3 h => ?_)
        refine lv_iload_n C.1 C.2.1 dX7_lays_51 rfl (lv_at hl 1 rfl) ?_
        refine lv_iload_n C.1 C.2.1 dX7_lays_52 rfl (lv_at hl 3 rfl) ?_
        refine lv_iadd C.1 C.2.1 dX7_lays_53 ?_
        refine r_aI C hK hP dX7_lays_54 h (fun x4 h => ?_)
        refine r_sI C hK hP hS dX7_lays_55 h (fun M5 H locs h hP hS => ?_)
        refine lv_aload_n C.1 C.2.1 dX7_lays_56 rfl (lv_at hl 0 rfl) ?_
        refine lv_dup C.1 C.2.1 dX7_lays_57 rfl ?_
        refine r_tI C hK hP hT cl_7 (k := 7) (by decide) wd_1151 rfl dX7_lays_58 h (fun x6 h => ?_)
        refine lv_iconst (v := 1) C.1 C.2.1 dX7_lays_61 (by decide) ?_
        refine lv_iadd C.1 C.2.1 dX7_lays_62 ?_
        refine r_qI C hK hP hS hT cl_7 (k := 7) (by decide) wd_1151 rfl rfl (tyX7_ok 7 (by decide)) dX7_lays_63 h (fun M7 H locs h hP hS => ?_)
        refine lv_iinc (v := (v3 + 1)) (lv' := [(3, .int (v3 + 1)), (0, .ref a0), (1, .int a1), (2, .int a2)]) C.1 C.2.1 dX7_lays_66 hl (k := 3) rfl rfl (by decide) rfl (fun ls hl => ?_)
        refine lv_goto (tgt := 34) C.1 C.2.1 dX7_lays_69 (by decide) ?_
        have e := Option.some.inj h
        rw [← e] at hz1
        exact ih1 ((v3 + 1)) M7 _ _ _ hP hS (lv_sub hl [1, 2, 3, 0] rfl) (itK_inl hz1)
      · have e := Option.some.inj h
        rw [← e] at hz1
        replace e := itK_inr hz1
        exact q_v C hlk hP hS hr rfl e.symm dX7_lays_72
  have J32 : ∀ (M : Mm) (H : Heap) (locs : List Loc) (ls : Array Slot), HM G Sh M H → SS G s s.heap.size H locs → lv_has ls 4 [(0, .ref a0), (1, .int a1), (2, .int a2)] → fX7_lays_32 n Sh a0 a1 a2 M = some r → W p l e rmX7_lays s m args below meth c H locs 0 0 (MQ below (QG G Sh r none) args s rmX7_lays.cells rmX7_lays.slots (AA G)) (F0 m 32 ls []) := by
    intro M H locs ls hP hS hl h
    unfold fX7_lays_32 at h
    refine lv_iconst (v := 0) C.1 C.2.1 dX7_lays_32 (by decide) ?_
    refine lv_istore_n (lv' := [(3, .int 0), (0, .ref a0), (1, .int a1), (2, .int a2)]) C.1 C.2.1 dX7_lays_33 rfl hl (by decide) rfl (fun ls hl => ?_)
    exact J34  n (0) M _ _ _ hP hS (lv_sub hl [1, 2, 3, 0] rfl) h
  unfold fX7_lays at h
  refine lv_iload_n C.1 C.2.1 dX7_lays_0 rfl (lv_at hl 2 rfl) ?_
  refine b_le (tgt := 32) C dX7_lays_1 (by decide) h (fun h => ?_) (fun h => ?_)
  · exact J32 (M) _ _ _ hP hS (lv_sub hl [0, 1, 2] rfl) h
  · refine lv_aload_n C.1 C.2.1 dX7_lays_4 rfl (lv_at hl 0 rfl) ?_
    refine r_tI C hK hP hT cl_7 (k := 7) (by decide) wd_1151 rfl dX7_lays_5 h (fun x8 h => ?_)
    refine b_le (tgt := 32) C dX7_lays_8 (by decide) h (fun h => ?_) (fun h => ?_)
    · exact J32 (M) _ _ _ hP hS (lv_sub hl [0, 1, 2] rfl) h
    · refine lv_aload_n C.1 C.2.1 dX7_lays_11 rfl (lv_at hl 0 rfl) ?_
      refine r_tF C hK hP hT cl_7 (k := 6) (by decide) wd_1150 rfl dX7_lays_12 h (fun b9 h => ?_)
      refine lv_aload_n C.1 C.2.1 dX7_lays_15 rfl (lv_at hl 0 rfl) ?_
      refine r_tI C hK hP hT cl_7 (k := 7) (by decide) wd_1151 rfl dX7_lays_16 h (fun x10 h => ?_)
      refine lv_bipush (v := 32) C.1 C.2.1 dX7_lays_19 (by decide) ?_
      refine r_sI C hK hP hS dX7_lays_21 h (fun M11 H locs h hP hS => ?_)
      refine lv_aload_n C.1 C.2.1 dX7_lays_22 rfl (lv_at hl 0 rfl) ?_
      refine lv_dup C.1 C.2.1 dX7_lays_23 rfl ?_
      refine r_tI C hK hP hT cl_7 (k := 7) (by decide) wd_1151 rfl dX7_lays_24 h (fun x12 h => ?_)
      refine lv_iconst (v := 1) C.1 C.2.1 dX7_lays_27 (by decide) ?_
      refine lv_iadd C.1 C.2.1 dX7_lays_28 ?_
      refine r_qI C hK hP hS hT cl_7 (k := 7) (by decide) wd_1151 rfl rfl (tyX7_ok 7 (by decide)) dX7_lays_29 h (fun M13 H locs h hP hS => ?_)
      exact J32 (M13) _ _ _ hP hS (lv_sub hl [0, 1, 2] rfl) h
