theorem dX4_attach_0 : decode cX4_attach 0 = .ok (.aload_n 0, 1) := by decide +kernel
theorem dX4_attach_1 : decode cX4_attach 1 = .ok (.iload_n 2, 1) := by decide +kernel
theorem dX4_attach_2 : decode cX4_attach 2 = .ok (.invokevirtual 81, 3) := by decide +kernel
theorem dX4_attach_5 : decode cX4_attach 5 = .ok (.istore 4, 2) := by decide +kernel
theorem dX4_attach_7 : decode cX4_attach 7 = .ok (.aload_n 0, 1) := by decide +kernel
theorem dX4_attach_8 : decode cX4_attach 8 = .ok (.iload_n 1, 1) := by decide +kernel
theorem dX4_attach_9 : decode cX4_attach 9 = .ok (.invokevirtual 73, 3) := by decide +kernel
theorem dX4_attach_12 : decode cX4_attach 12 = .ok (.ifCond .eq 28, 3) := by decide +kernel
theorem dX4_attach_15 : decode cX4_attach 15 = .ok (.aload_n 0, 1) := by decide +kernel
theorem dX4_attach_16 : decode cX4_attach 16 = .ok (.iload_n 2, 1) := by decide +kernel
theorem dX4_attach_17 : decode cX4_attach 17 = .ok (.invokevirtual 73, 3) := by decide +kernel
theorem dX4_attach_20 : decode cX4_attach 20 = .ok (.ifCond .eq 20, 3) := by decide +kernel
theorem dX4_attach_23 : decode cX4_attach 23 = .ok (.iload_n 3, 1) := by decide +kernel
theorem dX4_attach_24 : decode cX4_attach 24 = .ok (.ifCond .lt 16, 3) := by decide +kernel
theorem dX4_attach_27 : decode cX4_attach 27 = .ok (.iload_n 3, 1) := by decide +kernel
theorem dX4_attach_28 : decode cX4_attach 28 = .ok (.iload 4, 2) := by decide +kernel
theorem dX4_attach_30 : decode cX4_attach 30 = .ok (.if_icmp .gt 10, 3) := by decide +kernel
theorem dX4_attach_33 : decode cX4_attach 33 = .ok (.iload 4, 2) := by decide +kernel
theorem dX4_attach_35 : decode cX4_attach 35 = .ok (.bipush 24, 2) := by decide +kernel
theorem dX4_attach_37 : decode cX4_attach 37 = .ok (.if_icmp .lt 4, 3) := by decide +kernel
theorem dX4_attach_40 : decode cX4_attach 40 = .ok (.return_, 1) := by decide +kernel
theorem dX4_attach_41 : decode cX4_attach 41 = .ok (.iload_n 2, 1) := by decide +kernel
theorem dX4_attach_42 : decode cX4_attach 42 = .ok (.bipush 24, 2) := by decide +kernel
theorem dX4_attach_44 : decode cX4_attach 44 = .ok (.imul, 1) := by decide +kernel
theorem dX4_attach_45 : decode cX4_attach 45 = .ok (.istore 5, 2) := by decide +kernel
theorem dX4_attach_47 : decode cX4_attach 47 = .ok (.iload 4, 2) := by decide +kernel
theorem dX4_attach_49 : decode cX4_attach 49 = .ok (.istore 6, 2) := by decide +kernel
theorem dX4_attach_51 : decode cX4_attach 51 = .ok (.iload 6, 2) := by decide +kernel
theorem dX4_attach_53 : decode cX4_attach 53 = .ok (.iload_n 3, 1) := by decide +kernel
theorem dX4_attach_54 : decode cX4_attach 54 = .ok (.if_icmp .le 31, 3) := by decide +kernel
theorem dX4_attach_57 : decode cX4_attach 57 = .ok (.aload_n 0, 1) := by decide +kernel
theorem dX4_attach_58 : decode cX4_attach 58 = .ok (.getfield 21, 3) := by decide +kernel
theorem dX4_attach_61 : decode cX4_attach 61 = .ok (.iload 5, 2) := by decide +kernel
theorem dX4_attach_63 : decode cX4_attach 63 = .ok (.iload 6, 2) := by decide +kernel
theorem dX4_attach_65 : decode cX4_attach 65 = .ok (.iadd, 1) := by decide +kernel
theorem dX4_attach_66 : decode cX4_attach 66 = .ok (.aload_n 0, 1) := by decide +kernel
theorem dX4_attach_67 : decode cX4_attach 67 = .ok (.getfield 21, 3) := by decide +kernel
theorem dX4_attach_70 : decode cX4_attach 70 = .ok (.iload 5, 2) := by decide +kernel
theorem dX4_attach_72 : decode cX4_attach 72 = .ok (.iload 6, 2) := by decide +kernel
theorem dX4_attach_74 : decode cX4_attach 74 = .ok (.iadd, 1) := by decide +kernel
theorem dX4_attach_75 : decode cX4_attach 75 = .ok (.iconst 1, 1) := by decide +kernel
theorem dX4_attach_76 : decode cX4_attach 76 = .ok (.isub, 1) := by decide +kernel
theorem dX4_attach_77 : decode cX4_attach 77 = .ok (.iaload, 1) := by decide +kernel
theorem dX4_attach_78 : decode cX4_attach 78 = .ok (.iastore, 1) := by decide +kernel
theorem dX4_attach_79 : decode cX4_attach 79 = .ok (.iinc 6 (-1), 3) := by decide +kernel
theorem dX4_attach_82 : decode cX4_attach 82 = .ok (.goto (-31), 3) := by decide +kernel
theorem dX4_attach_85 : decode cX4_attach 85 = .ok (.aload_n 0, 1) := by decide +kernel
theorem dX4_attach_86 : decode cX4_attach 86 = .ok (.getfield 21, 3) := by decide +kernel
theorem dX4_attach_89 : decode cX4_attach 89 = .ok (.iload 5, 2) := by decide +kernel
theorem dX4_attach_91 : decode cX4_attach 91 = .ok (.iload_n 3, 1) := by decide +kernel
theorem dX4_attach_92 : decode cX4_attach 92 = .ok (.iadd, 1) := by decide +kernel
theorem dX4_attach_93 : decode cX4_attach 93 = .ok (.iload_n 1, 1) := by decide +kernel
theorem dX4_attach_94 : decode cX4_attach 94 = .ok (.iastore, 1) := by decide +kernel
theorem dX4_attach_95 : decode cX4_attach 95 = .ok (.aload_n 0, 1) := by decide +kernel
theorem dX4_attach_96 : decode cX4_attach 96 = .ok (.getfield 18, 3) := by decide +kernel
theorem dX4_attach_99 : decode cX4_attach 99 = .ok (.iload_n 2, 1) := by decide +kernel
theorem dX4_attach_100 : decode cX4_attach 100 = .ok (.dup2, 1) := by decide +kernel
theorem dX4_attach_101 : decode cX4_attach 101 = .ok (.iaload, 1) := by decide +kernel
theorem dX4_attach_102 : decode cX4_attach 102 = .ok (.iconst 1, 1) := by decide +kernel
theorem dX4_attach_103 : decode cX4_attach 103 = .ok (.iadd, 1) := by decide +kernel
theorem dX4_attach_104 : decode cX4_attach 104 = .ok (.iastore, 1) := by decide +kernel
theorem dX4_attach_105 : decode cX4_attach 105 = .ok (.aload_n 0, 1) := by decide +kernel
theorem dX4_attach_106 : decode cX4_attach 106 = .ok (.getfield 15, 3) := by decide +kernel
theorem dX4_attach_109 : decode cX4_attach 109 = .ok (.iload_n 1, 1) := by decide +kernel
theorem dX4_attach_110 : decode cX4_attach 110 = .ok (.iload_n 2, 1) := by decide +kernel
theorem dX4_attach_111 : decode cX4_attach 111 = .ok (.iastore, 1) := by decide +kernel
theorem dX4_attach_112 : decode cX4_attach 112 = .ok (.return_, 1) := by decide +kernel
abbrev rmX4_attach : Room := { frames := 2, cells := 0, slots := 0, locals := 61 }
noncomputable def fX4_attach_85 (n : Nat) (Sh : Sp) (a0 : Nat) (a1 : Int32) (a2 : Int32) (a3 : Int32) (M : Mm) (v5 : Int32) : Option Mm :=
  tF M a0 3 fun b1 =>
  sI Sh M b1 (v5 + a3) a1 fun M2 =>
  tF M2 a0 2 fun b3 =>
  aI Sh M2 b3 0 a2 fun x4 =>
  sI Sh M2 b3 a2 (x4 + 1) fun M5 =>
  tF M5 a0 1 fun b6 =>
  sI Sh M5 b6 a1 a2 fun M7 =>
  some M7
noncomputable def fX4_attach_51b (n : Nat) (Sh : Sp) (a0 : Nat) (a1 : Int32) (a2 : Int32) (a3 : Int32) (M : Mm) (v5 : Int32) (v6 : Int32) : Option ((Int32 × Mm) ⊕ Mm) :=
  if v6 ≤ a3 then
    (fX4_attach_85 n Sh a0 a1 a2 a3 M v5).map Sum.inr
  else
    tF M a0 3 fun b8 =>
    tF M a0 3 fun b9 =>
    aI Sh M b9 0 ((v5 + v6) - 1) fun x10 =>
    sI Sh M b8 (v5 + v6) x10 fun M11 =>
    some (Sum.inl ((v6 + (-1)), M11))
noncomputable def fX4_attach_51 (n : Nat) (Sh : Sp) (a0 : Nat) (a1 : Int32) (a2 : Int32) (a3 : Int32) (M : Mm) (v5 : Int32) (v6 : Int32) : Option Mm :=
  iter n (fun s => fX4_attach_51b n Sh a0 a1 a2 a3 s.2 v5 s.1) (v6, M)
noncomputable def fX4_attach (n : Nat) (Sh : Sp) (M : Mm) (a0 : Nat) (a1 : Int32) (a2 : Int32) (a3 : Int32) : Option Mm :=
  (fX4_kidCount n Sh M a0 a2).bind fun r12 =>
  (fX4_has n Sh M a0 a1).bind fun r13 =>
  if r13 = 0 then
    some M
  else
    (fX4_has n Sh M a0 a2).bind fun r14 =>
    if r14 = 0 then
      some M
    else
      if a3 < 0 then
        some M
      else
        if a3 ≤ r12 then
          if r12 < 24 then
            fX4_attach_51 n Sh a0 a1 a2 a3 M (a2 * 24) r12
          else
            some M
        else
          some M
set_option maxRecDepth 100000 in
set_option maxHeartbeats 4000000 in
theorem kX4_attach {l : Launch} {G : Gt} {n : Nat} {Sh : Sp} {M : Mm} {a0 : Nat} {a1 : Int32} {a2 : Int32} {a3 : Int32} (hT : Sh a0 = some (.inl 4)) {r : Mm} (h : fX4_attach n Sh M a0 a1 a2 a3 = some r) : Ct l yX4_attach cX4_attach 7 none rmX4_attach G Sh M [.ref a0, .int a1, .int a2, .int a3] none r := by
  refine Ct.of (by decide) (Nat.le_of_ble_eq_true rfl) ?_
  intro p e s m args below meth c ls C hK hX hP hS hb hlk hr hl
  replace hl : lv_has ls 7 [(0, .ref a0), (1, .int a1), (2, .int a2), (3, .int a3)] := hl
  have J85 : ∀ (M : Mm) (v5 : Int32) (H : Heap) (locs : List Loc) (ls : Array Slot), HM G Sh M H → SS G s s.heap.size H locs → lv_has ls 7 [(0, .ref a0), (1, .int a1), (2, .int a2), (3, .int a3), (5, .int v5)] → fX4_attach_85 n Sh a0 a1 a2 a3 M v5 = some r → W p l e rmX4_attach s m args below meth c H locs 0 0 (MQ below (QG G Sh r none) args s rmX4_attach.cells rmX4_attach.slots (AA G)) (F0 m 85 ls []) := by
    intro M v5 H locs ls hP hS hl h
    unfold fX4_attach_85 at h
    refine lv_aload_n C.1 C.2.1 dX4_attach_85 rfl (lv_at hl 0 rfl) ?_
    refine r_tF C hK hP hT cl_4 (k := 3) (by decide) wd_147 rfl dX4_attach_86 h (fun b1 h => ?_)
    refine lv_iload C.1 C.2.1 dX4_attach_89 (lv_at hl 4 rfl) ?_
    refine lv_iload_n C.1 C.2.1 dX4_attach_91 rfl (lv_at hl 3 rfl) ?_
    refine lv_iadd C.1 C.2.1 dX4_attach_92 ?_
    refine lv_iload_n C.1 C.2.1 dX4_attach_93 rfl (lv_at hl 1 rfl) ?_
    refine r_sI C hK hP hS dX4_attach_94 h (fun M2 H locs h hP hS => ?_)
    refine lv_aload_n C.1 C.2.1 dX4_attach_95 rfl (lv_at hl 0 rfl) ?_
    refine r_tF C hK hP hT cl_4 (k := 2) (by decide) wd_146 rfl dX4_attach_96 h (fun b3 h => ?_)
    refine lv_iload_n C.1 C.2.1 dX4_attach_99 rfl (lv_at hl 2 rfl) ?_
    refine lv_dup2_11 C.1 C.2.1 dX4_attach_100 rfl rfl ?_
    refine r_aI C hK hP dX4_attach_101 h (fun x4 h => ?_)
    refine lv_iconst (v := 1) C.1 C.2.1 dX4_attach_102 (by decide) ?_
    refine lv_iadd C.1 C.2.1 dX4_attach_103 ?_
    refine r_sI C hK hP hS dX4_attach_104 h (fun M5 H locs h hP hS => ?_)
    refine lv_aload_n C.1 C.2.1 dX4_attach_105 rfl (lv_at hl 0 rfl) ?_
    refine r_tF C hK hP hT cl_4 (k := 1) (by decide) wd_145 rfl dX4_attach_106 h (fun b6 h => ?_)
    refine lv_iload_n C.1 C.2.1 dX4_attach_109 rfl (lv_at hl 1 rfl) ?_
    refine lv_iload_n C.1 C.2.1 dX4_attach_110 rfl (lv_at hl 2 rfl) ?_
    refine r_sI C hK hP hS dX4_attach_111 h (fun M7 H locs h hP hS => ?_)
    have e := Option.some.inj h
    exact q_v C hlk hP hS hr rfl e.symm dX4_attach_112
  have J51 : ∀ (v5 : Int32), ∀ (k : Nat) (v6 : Int32) (M : Mm) (H : Heap) (locs : List Loc) (ls : Array Slot), HM G Sh M H → SS G s s.heap.size H locs → lv_has ls 7 [(0, .ref a0), (1, .int a1), (2, .int a2), (3, .int a3), (5, .int v5), (6, .int v6)] → iter k (fun s => fX4_attach_51b n Sh a0 a1 a2 a3 s.2 v5 s.1) (v6, M) = some r → W p l e rmX4_attach s m args below meth c H locs 0 0 (MQ below (QG G Sh r none) args s rmX4_attach.cells rmX4_attach.slots (AA G)) (F0 m 51 ls []) := by
    intro v5 k
    induction k with
    | zero => intro v6 M H locs ls hP hS hl h; exact (iter_0 h).elim
    | succ k ih1 =>
      intro v6 M H locs ls hP hS hl h
      obtain ⟨z1, h, hz1⟩ := iter_some h
      replace h : fX4_attach_51b n Sh a0 a1 a2 a3 M v5 v6 = some z1 := h
      unfold fX4_attach_51b at h
      refine lv_iload C.1 C.2.1 dX4_attach_51 (lv_at hl 5 rfl) ?_
      refine lv_iload_n C.1 C.2.1 dX4_attach_53 rfl (lv_at hl 3 rfl) ?_
      refine b_ile (tgt := 85) C dX4_attach_54 (by decide) h (fun h => ?_) (fun h => ?_)
      · obtain ⟨w1, h, e⟩ := mS h
        rw [← e] at hz1
        replace e := itK_inr hz1
        rw [e] at h
        exact J85 (M) (v5) _ _ _ hP hS (lv_sub hl [0, 1, 2, 3, 4] rfl) h
      · refine lv_aload_n C.1 C.2.1 dX4_attach_57 rfl (lv_at hl 0 rfl) ?_
        refine r_tF C hK hP hT cl_4 (k := 3) (by decide) wd_147 rfl dX4_attach_58 h (fun b8 h => ?_)
        refine lv_iload C.1 C.2.1 dX4_attach_61 (lv_at hl 4 rfl) ?_
        refine lv_iload C.1 C.2.1 dX4_attach_63 (lv_at hl 5 rfl) ?_
        refine lv_iadd C.1 C.2.1 dX4_attach_65 ?_
        refine lv_aload_n C.1 C.2.1 dX4_attach_66 rfl (lv_at hl 0 rfl) ?_
        refine r_tF C hK hP hT cl_4 (k := 3) (by decide) wd_147 rfl dX4_attach_67 h (fun b9 h => ?_)
        refine lv_iload C.1 C.2.1 dX4_attach_70 (lv_at hl 4 rfl) ?_
        refine lv_iload C.1 C.2.1 dX4_attach_72 (lv_at hl 5 rfl) ?_
        refine lv_iadd C.1 C.2.1 dX4_attach_74 ?_
        refine lv_iconst (v := 1) C.1 C.2.1 dX4_attach_75 (by decide) ?_
        refine lv_isub C.1 C.2.1 dX4_attach_76 ?_
        refine r_aI C hK hP dX4_attach_77 h (fun x10 h => ?_)
        refine r_sI C hK hP hS dX4_attach_78 h (fun M11 H locs h hP hS => ?_)
        refine lv_iinc (v := (v6 + (-1))) (lv' := [(6, .int (v6 + (-1))), (0, .ref a0), (1, .int a1), (2, .int a2), (3, .int a3), (5, .int v5)]) C.1 C.2.1 dX4_attach_79 hl (k := 5) rfl rfl (by decide) rfl (fun ls hl => ?_)
        refine lv_goto (tgt := 51) C.1 C.2.1 dX4_attach_82 (by decide) ?_
        have e := Option.some.inj h
        rw [← e] at hz1
        exact ih1 ((v6 + (-1))) M11 _ _ _ hP hS (lv_sub hl [1, 2, 3, 4, 5, 0] rfl) (itK_inl hz1)
  unfold fX4_attach at h
  refine lv_aload_n C.1 C.2.1 dX4_attach_0 rfl (lv_at hl 0 rfl) ?_
  refine lv_iload_n C.1 C.2.1 dX4_attach_1 rfl (lv_at hl 2 rfl) ?_
  obtain ⟨r12, hc, h⟩ := bS h
  refine r_V1 C hK hX hb hP hS hl.1 (kX4_kidCount (hT) hc) hT cl_4 wd_321 mo_X4_kidCount wd_322 wd_323 ⟨Nat.le_of_ble_eq_true rfl, Nat.le_of_ble_eq_true rfl⟩ ⟨Nat.le_of_ble_eq_true rfl, Nat.le_of_ble_eq_true rfl⟩ rfl (rest := []) rfl (Nat.le_of_ble_eq_true rfl) dX4_attach_2 (fun H locs hP hS => ?_)
  refine lv_istore (lv' := [(4, .int r12), (0, .ref a0), (1, .int a1), (2, .int a2), (3, .int a3)]) C.1 C.2.1 dX4_attach_5 hl (by decide) rfl (fun ls hl => ?_)
  refine lv_aload_n C.1 C.2.1 dX4_attach_7 rfl (lv_at hl 1 rfl) ?_
  refine lv_iload_n C.1 C.2.1 dX4_attach_8 rfl (lv_at hl 2 rfl) ?_
  obtain ⟨r13, hc, h⟩ := bS h
  refine r_V1 C hK hX hb hP hS hl.1 (kX4_has (hT) hc) hT cl_4 wd_297 mo_X4_has wd_298 wd_299 ⟨Nat.le_of_ble_eq_true rfl, Nat.le_of_ble_eq_true rfl⟩ ⟨Nat.le_of_ble_eq_true rfl, Nat.le_of_ble_eq_true rfl⟩ rfl (rest := []) rfl (Nat.le_of_ble_eq_true rfl) dX4_attach_9 (fun H locs hP hS => ?_)
  refine b_eq (tgt := 40) C dX4_attach_12 (by decide) h (fun h => ?_) (fun h => ?_)
  · have e := Option.some.inj h
    exact q_v C hlk hP hS hr rfl e.symm dX4_attach_40
  · refine lv_aload_n C.1 C.2.1 dX4_attach_15 rfl (lv_at hl 1 rfl) ?_
    refine lv_iload_n C.1 C.2.1 dX4_attach_16 rfl (lv_at hl 3 rfl) ?_
    obtain ⟨r14, hc, h⟩ := bS h
    refine r_V1 C hK hX hb hP hS hl.1 (kX4_has (hT) hc) hT cl_4 wd_297 mo_X4_has wd_298 wd_299 ⟨Nat.le_of_ble_eq_true rfl, Nat.le_of_ble_eq_true rfl⟩ ⟨Nat.le_of_ble_eq_true rfl, Nat.le_of_ble_eq_true rfl⟩ rfl (rest := []) rfl (Nat.le_of_ble_eq_true rfl) dX4_attach_17 (fun H locs hP hS => ?_)
    refine b_eq (tgt := 40) C dX4_attach_20 (by decide) h (fun h => ?_) (fun h => ?_)
    · have e := Option.some.inj h
      exact q_v C hlk hP hS hr rfl e.symm dX4_attach_40
    · refine lv_iload_n C.1 C.2.1 dX4_attach_23 rfl (lv_at hl 4 rfl) ?_
      refine b_lt (tgt := 40) C dX4_attach_24 (by decide) h (fun h => ?_) (fun h => ?_)
      · have e := Option.some.inj h
        exact q_v C hlk hP hS hr rfl e.symm dX4_attach_40
      · refine lv_iload_n C.1 C.2.1 dX4_attach_27 rfl (lv_at hl 4 rfl) ?_
        refine lv_iload C.1 C.2.1 dX4_attach_28 (lv_at hl 0 rfl) ?_
        refine b_igt (tgt := 40) C dX4_attach_30 (by decide) h (fun h => ?_) (fun h => ?_)
        · refine lv_iload C.1 C.2.1 dX4_attach_33 (lv_at hl 0 rfl) ?_
          refine lv_bipush (v := 24) C.1 C.2.1 dX4_attach_35 (by decide) ?_
          refine b_ilt (tgt := 41) C dX4_attach_37 (by decide) h (fun h => ?_) (fun h => ?_)
          · refine lv_iload_n C.1 C.2.1 dX4_attach_41 rfl (lv_at hl 3 rfl) ?_
            refine lv_bipush (v := 24) C.1 C.2.1 dX4_attach_42 (by decide) ?_
            refine lv_imul C.1 C.2.1 dX4_attach_44 ?_
            refine lv_istore (lv' := [(5, .int (a2 * 24)), (4, .int r12), (0, .ref a0), (1, .int a1), (2, .int a2), (3, .int a3)]) C.1 C.2.1 dX4_attach_45 hl (by decide) rfl (fun ls hl => ?_)
            refine lv_iload C.1 C.2.1 dX4_attach_47 (lv_at hl 1 rfl) ?_
            refine lv_istore (lv' := [(6, .int r12), (5, .int (a2 * 24)), (4, .int r12), (0, .ref a0), (1, .int a1), (2, .int a2), (3, .int a3)]) C.1 C.2.1 dX4_attach_49 hl (by decide) rfl (fun ls hl => ?_)
            exact J51 ((a2 * 24)) n (r12) M _ _ _ hP hS (lv_sub hl [3, 4, 5, 6, 1, 0] rfl) h
          · have e := Option.some.inj h
            exact q_v C hlk hP hS hr rfl e.symm dX4_attach_40
        · have e := Option.some.inj h
          exact q_v C hlk hP hS hr rfl e.symm dX4_attach_40
theorem dX4_detach_0 : decode cX4_detach 0 = .ok (.aload_n 0, 1) := by decide +kernel
theorem dX4_detach_1 : decode cX4_detach 1 = .ok (.iload_n 1, 1) := by decide +kernel
theorem dX4_detach_2 : decode cX4_detach 2 = .ok (.invokevirtual 77, 3) := by decide +kernel
theorem dX4_detach_5 : decode cX4_detach 5 = .ok (.istore_n 2, 1) := by decide +kernel
theorem dX4_detach_6 : decode cX4_detach 6 = .ok (.aload_n 0, 1) := by decide +kernel
theorem dX4_detach_7 : decode cX4_detach 7 = .ok (.iload_n 2, 1) := by decide +kernel
theorem dX4_detach_8 : decode cX4_detach 8 = .ok (.invokevirtual 73, 3) := by decide +kernel
theorem dX4_detach_11 : decode cX4_detach 11 = .ok (.ifCond .ne 4, 3) := by decide +kernel
theorem dX4_detach_14 : decode cX4_detach 14 = .ok (.return_, 1) := by decide +kernel
theorem dX4_detach_15 : decode cX4_detach 15 = .ok (.iload_n 2, 1) := by decide +kernel
theorem dX4_detach_16 : decode cX4_detach 16 = .ok (.bipush 24, 2) := by decide +kernel
theorem dX4_detach_18 : decode cX4_detach 18 = .ok (.imul, 1) := by decide +kernel
theorem dX4_detach_19 : decode cX4_detach 19 = .ok (.istore_n 3, 1) := by decide +kernel
theorem dX4_detach_20 : decode cX4_detach 20 = .ok (.aload_n 0, 1) := by decide +kernel
theorem dX4_detach_21 : decode cX4_detach 21 = .ok (.iload_n 1, 1) := by decide +kernel
theorem dX4_detach_22 : decode cX4_detach 22 = .ok (.invokevirtual 88, 3) := by decide +kernel
theorem dX4_detach_25 : decode cX4_detach 25 = .ok (.iconst 1, 1) := by decide +kernel
theorem dX4_detach_26 : decode cX4_detach 26 = .ok (.iadd, 1) := by decide +kernel
theorem dX4_detach_27 : decode cX4_detach 27 = .ok (.istore 4, 2) := by decide +kernel
theorem dX4_detach_29 : decode cX4_detach 29 = .ok (.iload 4, 2) := by decide +kernel
theorem dX4_detach_31 : decode cX4_detach 31 = .ok (.aload_n 0, 1) := by decide +kernel
theorem dX4_detach_32 : decode cX4_detach 32 = .ok (.iload_n 2, 1) := by decide +kernel
theorem dX4_detach_33 : decode cX4_detach 33 = .ok (.invokevirtual 81, 3) := by decide +kernel
theorem dX4_detach_36 : decode cX4_detach 36 = .ok (.if_icmp .ge 29, 3) := by decide +kernel
theorem dX4_detach_39 : decode cX4_detach 39 = .ok (.aload_n 0, 1) := by decide +kernel
theorem dX4_detach_40 : decode cX4_detach 40 = .ok (.getfield 21, 3) := by decide +kernel
theorem dX4_detach_43 : decode cX4_detach 43 = .ok (.iload_n 3, 1) := by decide +kernel
theorem dX4_detach_44 : decode cX4_detach 44 = .ok (.iload 4, 2) := by decide +kernel
theorem dX4_detach_46 : decode cX4_detach 46 = .ok (.iadd, 1) := by decide +kernel
theorem dX4_detach_47 : decode cX4_detach 47 = .ok (.iconst 1, 1) := by decide +kernel
theorem dX4_detach_48 : decode cX4_detach 48 = .ok (.isub, 1) := by decide +kernel
theorem dX4_detach_49 : decode cX4_detach 49 = .ok (.aload_n 0, 1) := by decide +kernel
theorem dX4_detach_50 : decode cX4_detach 50 = .ok (.getfield 21, 3) := by decide +kernel
theorem dX4_detach_53 : decode cX4_detach 53 = .ok (.iload_n 3, 1) := by decide +kernel
theorem dX4_detach_54 : decode cX4_detach 54 = .ok (.iload 4, 2) := by decide +kernel
theorem dX4_detach_56 : decode cX4_detach 56 = .ok (.iadd, 1) := by decide +kernel
theorem dX4_detach_57 : decode cX4_detach 57 = .ok (.iaload, 1) := by decide +kernel
theorem dX4_detach_58 : decode cX4_detach 58 = .ok (.iastore, 1) := by decide +kernel
theorem dX4_detach_59 : decode cX4_detach 59 = .ok (.iinc 4 1, 3) := by decide +kernel
theorem dX4_detach_62 : decode cX4_detach 62 = .ok (.goto (-33), 3) := by decide +kernel
theorem dX4_detach_65 : decode cX4_detach 65 = .ok (.aload_n 0, 1) := by decide +kernel
theorem dX4_detach_66 : decode cX4_detach 66 = .ok (.getfield 18, 3) := by decide +kernel
theorem dX4_detach_69 : decode cX4_detach 69 = .ok (.iload_n 2, 1) := by decide +kernel
theorem dX4_detach_70 : decode cX4_detach 70 = .ok (.dup2, 1) := by decide +kernel
theorem dX4_detach_71 : decode cX4_detach 71 = .ok (.iaload, 1) := by decide +kernel
theorem dX4_detach_72 : decode cX4_detach 72 = .ok (.iconst 1, 1) := by decide +kernel
theorem dX4_detach_73 : decode cX4_detach 73 = .ok (.isub, 1) := by decide +kernel
theorem dX4_detach_74 : decode cX4_detach 74 = .ok (.iastore, 1) := by decide +kernel
theorem dX4_detach_75 : decode cX4_detach 75 = .ok (.aload_n 0, 1) := by decide +kernel
theorem dX4_detach_76 : decode cX4_detach 76 = .ok (.getfield 15, 3) := by decide +kernel
theorem dX4_detach_79 : decode cX4_detach 79 = .ok (.iload_n 1, 1) := by decide +kernel
theorem dX4_detach_80 : decode cX4_detach 80 = .ok (.iconst (-1), 1) := by decide +kernel
theorem dX4_detach_81 : decode cX4_detach 81 = .ok (.iastore, 1) := by decide +kernel
theorem dX4_detach_82 : decode cX4_detach 82 = .ok (.return_, 1) := by decide +kernel
abbrev rmX4_detach : Room := { frames := 3, cells := 0, slots := 0, locals := 85 }
noncomputable def fX4_detach_65 (n : Nat) (Sh : Sp) (a0 : Nat) (a1 : Int32) (M : Mm) (v2 : Int32) : Option Mm :=
  tF M a0 2 fun b1 =>
  aI Sh M b1 0 v2 fun x2 =>
  sI Sh M b1 v2 (x2 - 1) fun M3 =>
  tF M3 a0 1 fun b4 =>
  sI Sh M3 b4 a1 (-1) fun M5 =>
  some M5
noncomputable def fX4_detach_29b (n : Nat) (Sh : Sp) (a0 : Nat) (a1 : Int32) (M : Mm) (v2 : Int32) (v3 : Int32) (v4 : Int32) : Option ((Int32 × Mm) ⊕ Mm) :=
  (fX4_kidCount n Sh M a0 v2).bind fun r6 =>
  if v4 < r6 then
    tF M a0 3 fun b7 =>
    tF M a0 3 fun b8 =>
    aI Sh M b8 0 (v3 + v4) fun x9 =>
    sI Sh M b7 ((v3 + v4) - 1) x9 fun M10 =>
    some (Sum.inl ((v4 + 1), M10))
  else
    (fX4_detach_65 n Sh a0 a1 M v2).map Sum.inr
noncomputable def fX4_detach_29 (n : Nat) (Sh : Sp) (a0 : Nat) (a1 : Int32) (M : Mm) (v2 : Int32) (v3 : Int32) (v4 : Int32) : Option Mm :=
  iter n (fun s => fX4_detach_29b n Sh a0 a1 s.2 v2 v3 s.1) (v4, M)
noncomputable def fX4_detach (n : Nat) (Sh : Sp) (M : Mm) (a0 : Nat) (a1 : Int32) : Option Mm :=
  (fX4_parentOf n Sh M a0 a1).bind fun r11 =>
  (fX4_has n Sh M a0 r11).bind fun r12 =>
  if r12 = 0 then
    some M
  else
    (fX4_placeOf n Sh M a0 a1).bind fun r13 =>
    fX4_detach_29 n Sh a0 a1 M r11 (r11 * 24) (r13 + 1)
set_option maxRecDepth 100000 in
set_option maxHeartbeats 4000000 in
theorem kX4_detach {l : Launch} {G : Gt} {n : Nat} {Sh : Sp} {M : Mm} {a0 : Nat} {a1 : Int32} (hT : Sh a0 = some (.inl 4)) {r : Mm} (h : fX4_detach n Sh M a0 a1 = some r) : Ct l yX4_detach cX4_detach 5 none rmX4_detach G Sh M [.ref a0, .int a1] none r := by
  refine Ct.of (by decide) (Nat.le_of_ble_eq_true rfl) ?_
  intro p e s m args below meth c ls C hK hX hP hS hb hlk hr hl
  replace hl : lv_has ls 5 [(0, .ref a0), (1, .int a1)] := hl
  have J65 : ∀ (M : Mm) (v2 : Int32) (H : Heap) (locs : List Loc) (ls : Array Slot), HM G Sh M H → SS G s s.heap.size H locs → lv_has ls 5 [(0, .ref a0), (1, .int a1), (2, .int v2)] → fX4_detach_65 n Sh a0 a1 M v2 = some r → W p l e rmX4_detach s m args below meth c H locs 0 0 (MQ below (QG G Sh r none) args s rmX4_detach.cells rmX4_detach.slots (AA G)) (F0 m 65 ls []) := by
    intro M v2 H locs ls hP hS hl h
    unfold fX4_detach_65 at h
    refine lv_aload_n C.1 C.2.1 dX4_detach_65 rfl (lv_at hl 0 rfl) ?_
    refine r_tF C hK hP hT cl_4 (k := 2) (by decide) wd_146 rfl dX4_detach_66 h (fun b1 h => ?_)
    refine lv_iload_n C.1 C.2.1 dX4_detach_69 rfl (lv_at hl 2 rfl) ?_
    refine lv_dup2_11 C.1 C.2.1 dX4_detach_70 rfl rfl ?_
    refine r_aI C hK hP dX4_detach_71 h (fun x2 h => ?_)
    refine lv_iconst (v := 1) C.1 C.2.1 dX4_detach_72 (by decide) ?_
    refine lv_isub C.1 C.2.1 dX4_detach_73 ?_
    refine r_sI C hK hP hS dX4_detach_74 h (fun M3 H locs h hP hS => ?_)
    refine lv_aload_n C.1 C.2.1 dX4_detach_75 rfl (lv_at hl 0 rfl) ?_
    refine r_tF C hK hP hT cl_4 (k := 1) (by decide) wd_145 rfl dX4_detach_76 h (fun b4 h => ?_)
    refine lv_iload_n C.1 C.2.1 dX4_detach_79 rfl (lv_at hl 1 rfl) ?_
    refine lv_iconst (v := (-1)) C.1 C.2.1 dX4_detach_80 (by decide) ?_
    refine r_sI C hK hP hS dX4_detach_81 h (fun M5 H locs h hP hS => ?_)
    have e := Option.some.inj h
    exact q_v C hlk hP hS hr rfl e.symm dX4_detach_82
  have J29 : ∀ (v2 : Int32) (v3 : Int32), ∀ (k : Nat) (v4 : Int32) (M : Mm) (H : Heap) (locs : List Loc) (ls : Array Slot), HM G Sh M H → SS G s s.heap.size H locs → lv_has ls 5 [(0, .ref a0), (1, .int a1), (2, .int v2), (3, .int v3), (4, .int v4)] → iter k (fun s => fX4_detach_29b n Sh a0 a1 s.2 v2 v3 s.1) (v4, M) = some r → W p l e rmX4_detach s m args below meth c H locs 0 0 (MQ below (QG G Sh r none) args s rmX4_detach.cells rmX4_detach.slots (AA G)) (F0 m 29 ls []) := by
    intro v2 v3 k
    induction k with
    | zero => intro v4 M H locs ls hP hS hl h; exact (iter_0 h).elim
    | succ k ih1 =>
      intro v4 M H locs ls hP hS hl h
      obtain ⟨z1, h, hz1⟩ := iter_some h
      replace h : fX4_detach_29b n Sh a0 a1 M v2 v3 v4 = some z1 := h
      unfold fX4_detach_29b at h
      refine lv_iload C.1 C.2.1 dX4_detach_29 (lv_at hl 4 rfl) ?_
      refine lv_aload_n C.1 C.2.1 dX4_detach_31 rfl (lv_at hl 0 rfl) ?_
      refine lv_iload_n C.1 C.2.1 dX4_detach_32 rfl (lv_at hl 2 rfl) ?_
      obtain ⟨r6, hc, h⟩ := bS h
      refine r_V1 C hK hX hb hP hS hl.1 (kX4_kidCount (hT) hc) hT cl_4 wd_321 mo_X4_kidCount wd_322 wd_323 ⟨Nat.le_of_ble_eq_true rfl, Nat.le_of_ble_eq_true rfl⟩ ⟨Nat.le_of_ble_eq_true rfl, Nat.le_of_ble_eq_true rfl⟩ rfl (rest := [.int v4]) rfl (Nat.le_of_ble_eq_true rfl) dX4_detach_33 (fun H locs hP hS => ?_)
      refine b_ige (tgt := 65) C dX4_detach_36 (by decide) h (fun h => ?_) (fun h => ?_)
      · refine lv_aload_n C.1 C.2.1 dX4_detach_39 rfl (lv_at hl 0 rfl) ?_
        refine r_tF C hK hP hT cl_4 (k := 3) (by decide) wd_147 rfl dX4_detach_40 h (fun b7 h => ?_)
        refine lv_iload_n C.1 C.2.1 dX4_detach_43 rfl (lv_at hl 3 rfl) ?_
        refine lv_iload C.1 C.2.1 dX4_detach_44 (lv_at hl 4 rfl) ?_
        refine lv_iadd C.1 C.2.1 dX4_detach_46 ?_
        refine lv_iconst (v := 1) C.1 C.2.1 dX4_detach_47 (by decide) ?_
        refine lv_isub C.1 C.2.1 dX4_detach_48 ?_
        refine lv_aload_n C.1 C.2.1 dX4_detach_49 rfl (lv_at hl 0 rfl) ?_
        refine r_tF C hK hP hT cl_4 (k := 3) (by decide) wd_147 rfl dX4_detach_50 h (fun b8 h => ?_)
        refine lv_iload_n C.1 C.2.1 dX4_detach_53 rfl (lv_at hl 3 rfl) ?_
        refine lv_iload C.1 C.2.1 dX4_detach_54 (lv_at hl 4 rfl) ?_
        refine lv_iadd C.1 C.2.1 dX4_detach_56 ?_
        refine r_aI C hK hP dX4_detach_57 h (fun x9 h => ?_)
        refine r_sI C hK hP hS dX4_detach_58 h (fun M10 H locs h hP hS => ?_)
        refine lv_iinc (v := (v4 + 1)) (lv' := [(4, .int (v4 + 1)), (0, .ref a0), (1, .int a1), (2, .int v2), (3, .int v3)]) C.1 C.2.1 dX4_detach_59 hl (k := 4) rfl rfl (by decide) rfl (fun ls hl => ?_)
        refine lv_goto (tgt := 29) C.1 C.2.1 dX4_detach_62 (by decide) ?_
        have e := Option.some.inj h
        rw [← e] at hz1
        exact ih1 ((v4 + 1)) M10 _ _ _ hP hS (lv_sub hl [1, 2, 3, 4, 0] rfl) (itK_inl hz1)
      · obtain ⟨w1, h, e⟩ := mS h
        rw [← e] at hz1
        replace e := itK_inr hz1
        rw [e] at h
        exact J65 (M) (v2) _ _ _ hP hS (lv_sub hl [0, 1, 2] rfl) h
  unfold fX4_detach at h
  refine lv_aload_n C.1 C.2.1 dX4_detach_0 rfl (lv_at hl 0 rfl) ?_
  refine lv_iload_n C.1 C.2.1 dX4_detach_1 rfl (lv_at hl 1 rfl) ?_
  obtain ⟨r11, hc, h⟩ := bS h
  refine r_V1 C hK hX hb hP hS hl.1 (kX4_parentOf (hT) hc) hT cl_4 wd_305 mo_X4_parentOf wd_306 wd_307 ⟨Nat.le_of_ble_eq_true rfl, Nat.le_of_ble_eq_true rfl⟩ ⟨Nat.le_of_ble_eq_true rfl, Nat.le_of_ble_eq_true rfl⟩ rfl (rest := []) rfl (Nat.le_of_ble_eq_true rfl) dX4_detach_2 (fun H locs hP hS => ?_)
  refine lv_istore_n (lv' := [(2, .int r11), (0, .ref a0), (1, .int a1)]) C.1 C.2.1 dX4_detach_5 rfl hl (by decide) rfl (fun ls hl => ?_)
  refine lv_aload_n C.1 C.2.1 dX4_detach_6 rfl (lv_at hl 1 rfl) ?_
  refine lv_iload_n C.1 C.2.1 dX4_detach_7 rfl (lv_at hl 0 rfl) ?_
  obtain ⟨r12, hc, h⟩ := bS h
  refine r_V1 C hK hX hb hP hS hl.1 (kX4_has (hT) hc) hT cl_4 wd_297 mo_X4_has wd_298 wd_299 ⟨Nat.le_of_ble_eq_true rfl, Nat.le_of_ble_eq_true rfl⟩ ⟨Nat.le_of_ble_eq_true rfl, Nat.le_of_ble_eq_true rfl⟩ rfl (rest := []) rfl (Nat.le_of_ble_eq_true rfl) dX4_detach_8 (fun H locs hP hS => ?_)
  refine b_ne (tgt := 15) C dX4_detach_11 (by decide) h (fun h => ?_) (fun h => ?_)
  · have e := Option.some.inj h
    exact q_v C hlk hP hS hr rfl e.symm dX4_detach_14
  · refine lv_iload_n C.1 C.2.1 dX4_detach_15 rfl (lv_at hl 0 rfl) ?_
    refine lv_bipush (v := 24) C.1 C.2.1 dX4_detach_16 (by decide) ?_
    refine lv_imul C.1 C.2.1 dX4_detach_18 ?_
    refine lv_istore_n (lv' := [(3, .int (r11 * 24)), (2, .int r11), (0, .ref a0), (1, .int a1)]) C.1 C.2.1 dX4_detach_19 rfl hl (by decide) rfl (fun ls hl => ?_)
    refine lv_aload_n C.1 C.2.1 dX4_detach_20 rfl (lv_at hl 2 rfl) ?_
    refine lv_iload_n C.1 C.2.1 dX4_detach_21 rfl (lv_at hl 3 rfl) ?_
    obtain ⟨r13, hc, h⟩ := bS h
    refine r_V1 C hK hX hb hP hS hl.1 (kX4_placeOf (hT) hc) hT cl_4 wd_636 mo_X4_placeOf wd_637 wd_638 ⟨Nat.le_of_ble_eq_true rfl, Nat.le_of_ble_eq_true rfl⟩ ⟨Nat.le_of_ble_eq_true rfl, Nat.le_of_ble_eq_true rfl⟩ rfl (rest := []) rfl (Nat.le_of_ble_eq_true rfl) dX4_detach_22 (fun H locs hP hS => ?_)
    refine lv_iconst (v := 1) C.1 C.2.1 dX4_detach_25 (by decide) ?_
    refine lv_iadd C.1 C.2.1 dX4_detach_26 ?_
    refine lv_istore (lv' := [(4, .int (r13 + 1)), (3, .int (r11 * 24)), (2, .int r11), (0, .ref a0), (1, .int a1)]) C.1 C.2.1 dX4_detach_27 hl (by decide) rfl (fun ls hl => ?_)
    exact J29 (r11) ((r11 * 24)) n ((r13 + 1)) M _ _ _ hP hS (lv_sub hl [3, 4, 2, 1, 0] rfl) h
theorem dX4_liesBelow_0 : decode cX4_liesBelow 0 = .ok (.aload_n 0, 1) := by decide +kernel
theorem dX4_liesBelow_1 : decode cX4_liesBelow 1 = .ok (.iload_n 1, 1) := by decide +kernel
theorem dX4_liesBelow_2 : decode cX4_liesBelow 2 = .ok (.invokevirtual 77, 3) := by decide +kernel
theorem dX4_liesBelow_5 : decode cX4_liesBelow 5 = .ok (.istore_n 3, 1) := by decide +kernel
theorem dX4_liesBelow_6 : decode cX4_liesBelow 6 = .ok (.iconst 0, 1) := by decide +kernel
theorem dX4_liesBelow_7 : decode cX4_liesBelow 7 = .ok (.istore 4, 2) := by decide +kernel
theorem dX4_liesBelow_9 : decode cX4_liesBelow 9 = .ok (.iload 4, 2) := by decide +kernel
theorem dX4_liesBelow_11 : decode cX4_liesBelow 11 = .ok (.bipush 24, 2) := by decide +kernel
theorem dX4_liesBelow_13 : decode cX4_liesBelow 13 = .ok (.if_icmp .ge 27, 3) := by decide +kernel
theorem dX4_liesBelow_16 : decode cX4_liesBelow 16 = .ok (.iload_n 3, 1) := by decide +kernel
theorem dX4_liesBelow_17 : decode cX4_liesBelow 17 = .ok (.iconst (-1), 1) := by decide +kernel
theorem dX4_liesBelow_18 : decode cX4_liesBelow 18 = .ok (.if_icmp .eq 22, 3) := by decide +kernel
theorem dX4_liesBelow_21 : decode cX4_liesBelow 21 = .ok (.iload_n 3, 1) := by decide +kernel
theorem dX4_liesBelow_22 : decode cX4_liesBelow 22 = .ok (.iload_n 2, 1) := by decide +kernel
theorem dX4_liesBelow_23 : decode cX4_liesBelow 23 = .ok (.if_icmp .ne 5, 3) := by decide +kernel
theorem dX4_liesBelow_26 : decode cX4_liesBelow 26 = .ok (.iconst 1, 1) := by decide +kernel
theorem dX4_liesBelow_27 : decode cX4_liesBelow 27 = .ok (.ireturn, 1) := by decide +kernel
theorem dX4_liesBelow_28 : decode cX4_liesBelow 28 = .ok (.aload_n 0, 1) := by decide +kernel
theorem dX4_liesBelow_29 : decode cX4_liesBelow 29 = .ok (.iload_n 3, 1) := by decide +kernel
theorem dX4_liesBelow_30 : decode cX4_liesBelow 30 = .ok (.invokevirtual 77, 3) := by decide +kernel
theorem dX4_liesBelow_33 : decode cX4_liesBelow 33 = .ok (.istore_n 3, 1) := by decide +kernel
theorem dX4_liesBelow_34 : decode cX4_liesBelow 34 = .ok (.iinc 4 1, 3) := by decide +kernel
theorem dX4_liesBelow_37 : decode cX4_liesBelow 37 = .ok (.goto (-28), 3) := by decide +kernel
theorem dX4_liesBelow_40 : decode cX4_liesBelow 40 = .ok (.iconst 0, 1) := by decide +kernel
theorem dX4_liesBelow_41 : decode cX4_liesBelow 41 = .ok (.ireturn, 1) := by decide +kernel
abbrev rmX4_liesBelow : Room := { frames := 2, cells := 0, slots := 0, locals := 61 }
noncomputable def fX4_liesBelow_9b (n : Nat) (Sh : Sp) (M : Mm) (a0 : Nat) (a1 : Int32) (a2 : Int32) (v3 : Int32) (v4 : Int32) : Option ((Int32 × Int32) ⊕ Int32) :=
  if v4 < 24 then
    if v3 = (-1) then
      some (Sum.inr 0)
    else
      if v3 = a2 then
        some (Sum.inr 1)
      else
        (fX4_parentOf n Sh M a0 v3).bind fun r1 =>
        some (Sum.inl (r1, (v4 + 1)))
  else
    some (Sum.inr 0)
noncomputable def fX4_liesBelow_9 (n : Nat) (Sh : Sp) (M : Mm) (a0 : Nat) (a1 : Int32) (a2 : Int32) (v3 : Int32) (v4 : Int32) : Option Int32 :=
  iter n (fun s => fX4_liesBelow_9b n Sh M a0 a1 a2 s.1 s.2) (v3, v4)
noncomputable def fX4_liesBelow (n : Nat) (Sh : Sp) (M : Mm) (a0 : Nat) (a1 : Int32) (a2 : Int32) : Option Int32 :=
  (fX4_parentOf n Sh M a0 a1).bind fun r2 =>
  fX4_liesBelow_9 n Sh M a0 a1 a2 r2 0
set_option maxRecDepth 100000 in
set_option maxHeartbeats 4000000 in
theorem kX4_liesBelow {l : Launch} {G : Gt} {n : Nat} {Sh : Sp} {M : Mm} {a0 : Nat} {a1 : Int32} {a2 : Int32} (hT : Sh a0 = some (.inl 4)) {r : Int32} (h : fX4_liesBelow n Sh M a0 a1 a2 = some r) : Ct l yX4_liesBelow cX4_liesBelow 5 (some .boolean) rmX4_liesBelow G Sh M [.ref a0, .int a1, .int a2] (some (.int r)) M := by
  refine Ct.of (by decide) (Nat.le_of_ble_eq_true rfl) ?_
  intro p e s m args below meth c ls C hK hX hP hS hb hlk hr hl
  replace hl : lv_has ls 5 [(0, .ref a0), (1, .int a1), (2, .int a2)] := hl
  have J9 : ∀ (k : Nat) (v3 : Int32) (v4 : Int32) (H : Heap) (locs : List Loc) (ls : Array Slot), HM G Sh M H → SS G s s.heap.size H locs → lv_has ls 5 [(0, .ref a0), (1, .int a1), (2, .int a2), (3, .int v3), (4, .int v4)] → iter k (fun s => fX4_liesBelow_9b n Sh M a0 a1 a2 s.1 s.2) (v3, v4) = some r → W p l e rmX4_liesBelow s m args below meth c H locs 0 0 (MQ below (QG G Sh M (some (.int r))) args s rmX4_liesBelow.cells rmX4_liesBelow.slots (AA G)) (F0 m 9 ls []) := by
    intro k
    induction k with
    | zero => intro v3 v4 H locs ls hP hS hl h; exact (iter_0 h).elim
    | succ k ih1 =>
      intro v3 v4 H locs ls hP hS hl h
      obtain ⟨z1, h, hz1⟩ := iter_some h
      replace h : fX4_liesBelow_9b n Sh M a0 a1 a2 v3 v4 = some z1 := h
      unfold fX4_liesBelow_9b at h
      refine lv_iload C.1 C.2.1 dX4_liesBelow_9 (lv_at hl 4 rfl) ?_
      refine lv_bipush (v := 24) C.1 C.2.1 dX4_liesBelow_11 (by decide) ?_
      refine b_ige (tgt := 40) C dX4_liesBelow_13 (by decide) h (fun h => ?_) (fun h => ?_)
      · refine lv_iload_n C.1 C.2.1 dX4_liesBelow_16 rfl (lv_at hl 3 rfl) ?_
        refine lv_iconst (v := (-1)) C.1 C.2.1 dX4_liesBelow_17 (by decide) ?_
        refine b_ieq (tgt := 40) C dX4_liesBelow_18 (by decide) h (fun h => ?_) (fun h => ?_)
        · refine lv_iconst (v := 0) C.1 C.2.1 dX4_liesBelow_40 (by decide) ?_
          have e := Option.some.inj h
          rw [← e] at hz1
          replace e := itK_inr hz1
          exact q_z C hlk hP hS hr (by decide) (by rw [← e]) rfl dX4_liesBelow_41
        · refine lv_iload_n C.1 C.2.1 dX4_liesBelow_21 rfl (lv_at hl 3 rfl) ?_
          refine lv_iload_n C.1 C.2.1 dX4_liesBelow_22 rfl (lv_at hl 2 rfl) ?_
          refine b_ine (tgt := 28) C dX4_liesBelow_23 (by decide) h (fun h => ?_) (fun h => ?_)
          · refine lv_iconst (v := 1) C.1 C.2.1 dX4_liesBelow_26 (by decide) ?_
            have e := Option.some.inj h
            rw [← e] at hz1
            replace e := itK_inr hz1
            exact q_z C hlk hP hS hr (by decide) (by rw [← e]) rfl dX4_liesBelow_27
          · refine lv_aload_n C.1 C.2.1 dX4_liesBelow_28 rfl (lv_at hl 0 rfl) ?_
            refine lv_iload_n C.1 C.2.1 dX4_liesBelow_29 rfl (lv_at hl 3 rfl) ?_
            obtain ⟨r1, hc, h⟩ := bS h
            refine r_V1 C hK hX hb hP hS hl.1 (kX4_parentOf (hT) hc) hT cl_4 wd_305 mo_X4_parentOf wd_306 wd_307 ⟨Nat.le_of_ble_eq_true rfl, Nat.le_of_ble_eq_true rfl⟩ ⟨Nat.le_of_ble_eq_true rfl, Nat.le_of_ble_eq_true rfl⟩ rfl (rest := []) rfl (Nat.le_of_ble_eq_true rfl) dX4_liesBelow_30 (fun H locs hP hS => ?_)
            refine lv_istore_n (lv' := [(3, .int r1), (0, .ref a0), (1, .int a1), (2, .int a2), (4, .int v4)]) C.1 C.2.1 dX4_liesBelow_33 rfl hl (by decide) rfl (fun ls hl => ?_)
            refine lv_iinc (v := (v4 + 1)) (lv' := [(4, .int (v4 + 1)), (3, .int r1), (0, .ref a0), (1, .int a1), (2, .int a2)]) C.1 C.2.1 dX4_liesBelow_34 hl (k := 4) rfl rfl (by decide) rfl (fun ls hl => ?_)
            refine lv_goto (tgt := 9) C.1 C.2.1 dX4_liesBelow_37 (by decide) ?_
            have e := Option.some.inj h
            rw [← e] at hz1
            exact ih1 (r1) ((v4 + 1)) _ _ _ hP hS (lv_sub hl [2, 3, 4, 1, 0] rfl) (itK_inl hz1)
      · refine lv_iconst (v := 0) C.1 C.2.1 dX4_liesBelow_40 (by decide) ?_
        have e := Option.some.inj h
        rw [← e] at hz1
        replace e := itK_inr hz1
        exact q_z C hlk hP hS hr (by decide) (by rw [← e]) rfl dX4_liesBelow_41
  unfold fX4_liesBelow at h
  refine lv_aload_n C.1 C.2.1 dX4_liesBelow_0 rfl (lv_at hl 0 rfl) ?_
  refine lv_iload_n C.1 C.2.1 dX4_liesBelow_1 rfl (lv_at hl 1 rfl) ?_
  obtain ⟨r2, hc, h⟩ := bS h
  refine r_V1 C hK hX hb hP hS hl.1 (kX4_parentOf (hT) hc) hT cl_4 wd_305 mo_X4_parentOf wd_306 wd_307 ⟨Nat.le_of_ble_eq_true rfl, Nat.le_of_ble_eq_true rfl⟩ ⟨Nat.le_of_ble_eq_true rfl, Nat.le_of_ble_eq_true rfl⟩ rfl (rest := []) rfl (Nat.le_of_ble_eq_true rfl) dX4_liesBelow_2 (fun H locs hP hS => ?_)
  refine lv_istore_n (lv' := [(3, .int r2), (0, .ref a0), (1, .int a1), (2, .int a2)]) C.1 C.2.1 dX4_liesBelow_5 rfl hl (by decide) rfl (fun ls hl => ?_)
  refine lv_iconst (v := 0) C.1 C.2.1 dX4_liesBelow_6 (by decide) ?_
  refine lv_istore (lv' := [(4, .int 0), (3, .int r2), (0, .ref a0), (1, .int a1), (2, .int a2)]) C.1 C.2.1 dX4_liesBelow_7 hl (by decide) rfl (fun ls hl => ?_)
  exact J9  n (r2) (0) _ _ _ hP hS (lv_sub hl [2, 3, 4, 1, 0] rfl) h
theorem dX4_maskFrom_0 : decode cX4_maskFrom 0 = .ok (.iconst 0, 1) := by decide +kernel
theorem dX4_maskFrom_1 : decode cX4_maskFrom 1 = .ok (.istore_n 2, 1) := by decide +kernel
theorem dX4_maskFrom_2 : decode cX4_maskFrom 2 = .ok (.iconst 0, 1) := by decide +kernel
theorem dX4_maskFrom_3 : decode cX4_maskFrom 3 = .ok (.istore_n 3, 1) := by decide +kernel
theorem dX4_maskFrom_4 : decode cX4_maskFrom 4 = .ok (.iload_n 3, 1) := by decide +kernel
theorem dX4_maskFrom_5 : decode cX4_maskFrom 5 = .ok (.bipush 24, 2) := by decide +kernel
theorem dX4_maskFrom_7 : decode cX4_maskFrom 7 = .ok (.if_icmp .ge 37, 3) := by decide +kernel
theorem dX4_maskFrom_10 : decode cX4_maskFrom 10 = .ok (.aload_n 0, 1) := by decide +kernel
theorem dX4_maskFrom_11 : decode cX4_maskFrom 11 = .ok (.iload_n 3, 1) := by decide +kernel
theorem dX4_maskFrom_12 : decode cX4_maskFrom 12 = .ok (.invokevirtual 73, 3) := by decide +kernel
theorem dX4_maskFrom_15 : decode cX4_maskFrom 15 = .ok (.ifCond .eq 23, 3) := by decide +kernel
theorem dX4_maskFrom_18 : decode cX4_maskFrom 18 = .ok (.iload_n 3, 1) := by decide +kernel
theorem dX4_maskFrom_19 : decode cX4_maskFrom 19 = .ok (.iload_n 1, 1) := by decide +kernel
theorem dX4_maskFrom_20 : decode cX4_maskFrom 20 = .ok (.if_icmp .eq 12, 3) := by decide +kernel
theorem dX4_maskFrom_23 : decode cX4_maskFrom 23 = .ok (.aload_n 0, 1) := by decide +kernel
theorem dX4_maskFrom_24 : decode cX4_maskFrom 24 = .ok (.iload_n 3, 1) := by decide +kernel
theorem dX4_maskFrom_25 : decode cX4_maskFrom 25 = .ok (.iload_n 1, 1) := by decide +kernel
theorem dX4_maskFrom_26 : decode cX4_maskFrom 26 = .ok (.invokevirtual 91, 3) := by decide +kernel
theorem dX4_maskFrom_29 : decode cX4_maskFrom 29 = .ok (.ifCond .eq 9, 3) := by decide +kernel
theorem dX4_maskFrom_32 : decode cX4_maskFrom 32 = .ok (.iload_n 2, 1) := by decide +kernel
theorem dX4_maskFrom_33 : decode cX4_maskFrom 33 = .ok (.iconst 1, 1) := by decide +kernel
theorem dX4_maskFrom_34 : decode cX4_maskFrom 34 = .ok (.iload_n 3, 1) := by decide +kernel
theorem dX4_maskFrom_35 : decode cX4_maskFrom 35 = .ok (.ishl, 1) := by decide +kernel
theorem dX4_maskFrom_36 : decode cX4_maskFrom 36 = .ok (.ior, 1) := by decide +kernel
theorem dX4_maskFrom_37 : decode cX4_maskFrom 37 = .ok (.istore_n 2, 1) := by decide +kernel
theorem dX4_maskFrom_38 : decode cX4_maskFrom 38 = .ok (.iinc 3 1, 3) := by decide +kernel
theorem dX4_maskFrom_41 : decode cX4_maskFrom 41 = .ok (.goto (-37), 3) := by decide +kernel
theorem dX4_maskFrom_44 : decode cX4_maskFrom 44 = .ok (.iload_n 2, 1) := by decide +kernel
theorem dX4_maskFrom_45 : decode cX4_maskFrom 45 = .ok (.ireturn, 1) := by decide +kernel
abbrev rmX4_maskFrom : Room := { frames := 3, cells := 0, slots := 0, locals := 85 }
noncomputable def fX4_maskFrom_38 (n : Nat) (Sh : Sp) (M : Mm) (a0 : Nat) (a1 : Int32) (v2 : Int32) (v3 : Int32) : Option ((Int32 × Int32) ⊕ Int32) :=
  some (Sum.inl (v2, (v3 + 1)))
noncomputable def fX4_maskFrom_32 (n : Nat) (Sh : Sp) (M : Mm) (a0 : Nat) (a1 : Int32) (v2 : Int32) (v3 : Int32) : Option ((Int32 × Int32) ⊕ Int32) :=
  fX4_maskFrom_38 n Sh M a0 a1 (v2 ||| (1 <<< (v3 &&& 31))) v3
noncomputable def fX4_maskFrom_4b (n : Nat) (Sh : Sp) (M : Mm) (a0 : Nat) (a1 : Int32) (v2 : Int32) (v3 : Int32) : Option ((Int32 × Int32) ⊕ Int32) :=
  if v3 < 24 then
    (fX4_has n Sh M a0 v3).bind fun r1 =>
    if r1 = 0 then
      fX4_maskFrom_38 n Sh M a0 a1 v2 v3
    else
      if v3 = a1 then
        fX4_maskFrom_32 n Sh M a0 a1 v2 v3
      else
        (fX4_liesBelow n Sh M a0 v3 a1).bind fun r2 =>
        if r2 = 0 then
          fX4_maskFrom_38 n Sh M a0 a1 v2 v3
        else
          fX4_maskFrom_32 n Sh M a0 a1 v2 v3
  else
    some (Sum.inr v2)
noncomputable def fX4_maskFrom_4 (n : Nat) (Sh : Sp) (M : Mm) (a0 : Nat) (a1 : Int32) (v2 : Int32) (v3 : Int32) : Option Int32 :=
  iter n (fun s => fX4_maskFrom_4b n Sh M a0 a1 s.1 s.2) (v2, v3)
noncomputable def fX4_maskFrom (n : Nat) (Sh : Sp) (M : Mm) (a0 : Nat) (a1 : Int32) : Option Int32 :=
  fX4_maskFrom_4 n Sh M a0 a1 0 0
set_option maxRecDepth 100000 in
set_option maxHeartbeats 4000000 in
theorem kX4_maskFrom {l : Launch} {G : Gt} {n : Nat} {Sh : Sp} {M : Mm} {a0 : Nat} {a1 : Int32} (hT : Sh a0 = some (.inl 4)) {r : Int32} (h : fX4_maskFrom n Sh M a0 a1 = some r) : Ct l yX4_maskFrom cX4_maskFrom 4 (some .int) rmX4_maskFrom G Sh M [.ref a0, .int a1] (some (.int r)) M := by
  refine Ct.of (by decide) (Nat.le_of_ble_eq_true rfl) ?_
  intro p e s m args below meth c ls C hK hX hP hS hb hlk hr hl
  replace hl : lv_has ls 4 [(0, .ref a0), (1, .int a1)] := hl
  have J4 : ∀ (k : Nat) (v2 : Int32) (v3 : Int32) (H : Heap) (locs : List Loc) (ls : Array Slot), HM G Sh M H → SS G s s.heap.size H locs → lv_has ls 4 [(0, .ref a0), (1, .int a1), (2, .int v2), (3, .int v3)] → iter k (fun s => fX4_maskFrom_4b n Sh M a0 a1 s.1 s.2) (v2, v3) = some r → W p l e rmX4_maskFrom s m args below meth c H locs 0 0 (MQ below (QG G Sh M (some (.int r))) args s rmX4_maskFrom.cells rmX4_maskFrom.slots (AA G)) (F0 m 4 ls []) := by
    intro k
    induction k with
    | zero => intro v2 v3 H locs ls hP hS hl h; exact (iter_0 h).elim
    | succ k ih1 =>
      intro v2 v3 H locs ls hP hS hl h
      obtain ⟨z1, h, hz1⟩ := iter_some h
      replace h : fX4_maskFrom_4b n Sh M a0 a1 v2 v3 = some z1 := h
      have J38 : ∀ (v2 : Int32) (v3 : Int32) (H : Heap) (locs : List Loc) (ls : Array Slot), HM G Sh M H → SS G s s.heap.size H locs → lv_has ls 4 [(0, .ref a0), (1, .int a1), (2, .int v2), (3, .int v3)] → fX4_maskFrom_38 n Sh M a0 a1 v2 v3 = some z1 → W p l e rmX4_maskFrom s m args below meth c H locs 0 0 (MQ below (QG G Sh M (some (.int r))) args s rmX4_maskFrom.cells rmX4_maskFrom.slots (AA G)) (F0 m 38 ls []) := by
        intro v2 v3 H locs ls hP hS hl h
        unfold fX4_maskFrom_38 at h
        refine lv_iinc (v := (v3 + 1)) (lv' := [(3, .int (v3 + 1)), (0, .ref a0), (1, .int a1), (2, .int v2)]) C.1 C.2.1 dX4_maskFrom_38 hl (k := 3) rfl rfl (by decide) rfl (fun ls hl => ?_)
        refine lv_goto (tgt := 4) C.1 C.2.1 dX4_maskFrom_41 (by decide) ?_
        have e := Option.some.inj h
        rw [← e] at hz1
        exact ih1 (v2) ((v3 + 1)) _ _ _ hP hS (lv_sub hl [1, 2, 3, 0] rfl) (itK_inl hz1)
      have J32 : ∀ (v2 : Int32) (v3 : Int32) (H : Heap) (locs : List Loc) (ls : Array Slot), HM G Sh M H → SS G s s.heap.size H locs → lv_has ls 4 [(0, .ref a0), (1, .int a1), (2, .int v2), (3, .int v3)] → fX4_maskFrom_32 n Sh M a0 a1 v2 v3 = some z1 → W p l e rmX4_maskFrom s m args below meth c H locs 0 0 (MQ below (QG G Sh M (some (.int r))) args s rmX4_maskFrom.cells rmX4_maskFrom.slots (AA G)) (F0 m 32 ls []) := by
        intro v2 v3 H locs ls hP hS hl h
        unfold fX4_maskFrom_32 at h
        refine lv_iload_n C.1 C.2.1 dX4_maskFrom_32 rfl (lv_at hl 2 rfl) ?_
        refine lv_iconst (v := 1) C.1 C.2.1 dX4_maskFrom_33 (by decide) ?_
        refine lv_iload_n C.1 C.2.1 dX4_maskFrom_34 rfl (lv_at hl 3 rfl) ?_
        refine lv_ishl C.1 C.2.1 dX4_maskFrom_35 ?_
        refine lv_ior C.1 C.2.1 dX4_maskFrom_36 ?_
        refine lv_istore_n (lv' := [(2, .int (v2 ||| (1 <<< (v3 &&& 31)))), (0, .ref a0), (1, .int a1), (3, .int v3)]) C.1 C.2.1 dX4_maskFrom_37 rfl hl (by decide) rfl (fun ls hl => ?_)
        exact J38 ((v2 ||| (1 <<< (v3 &&& 31)))) (v3) _ _ _ hP hS (lv_sub hl [1, 2, 0, 3] rfl) h
      unfold fX4_maskFrom_4b at h
      refine lv_iload_n C.1 C.2.1 dX4_maskFrom_4 rfl (lv_at hl 3 rfl) ?_
      refine lv_bipush (v := 24) C.1 C.2.1 dX4_maskFrom_5 (by decide) ?_
      refine b_ige (tgt := 44) C dX4_maskFrom_7 (by decide) h (fun h => ?_) (fun h => ?_)
      · refine lv_aload_n C.1 C.2.1 dX4_maskFrom_10 rfl (lv_at hl 0 rfl) ?_
        refine lv_iload_n C.1 C.2.1 dX4_maskFrom_11 rfl (lv_at hl 3 rfl) ?_
        obtain ⟨r1, hc, h⟩ := bS h
        refine r_V1 C hK hX hb hP hS hl.1 (kX4_has (hT) hc) hT cl_4 wd_297 mo_X4_has wd_298 wd_299 ⟨Nat.le_of_ble_eq_true rfl, Nat.le_of_ble_eq_true rfl⟩ ⟨Nat.le_of_ble_eq_true rfl, Nat.le_of_ble_eq_true rfl⟩ rfl (rest := []) rfl (Nat.le_of_ble_eq_true rfl) dX4_maskFrom_12 (fun H locs hP hS => ?_)
        refine b_eq (tgt := 38) C dX4_maskFrom_15 (by decide) h (fun h => ?_) (fun h => ?_)
        · exact J38 (v2) (v3) _ _ _ hP hS (lv_sub hl [0, 1, 2, 3] rfl) h
        · refine lv_iload_n C.1 C.2.1 dX4_maskFrom_18 rfl (lv_at hl 3 rfl) ?_
          refine lv_iload_n C.1 C.2.1 dX4_maskFrom_19 rfl (lv_at hl 1 rfl) ?_
          refine b_ieq (tgt := 32) C dX4_maskFrom_20 (by decide) h (fun h => ?_) (fun h => ?_)
          · exact J32 (v2) (v3) _ _ _ hP hS (lv_sub hl [0, 1, 2, 3] rfl) h
          · refine lv_aload_n C.1 C.2.1 dX4_maskFrom_23 rfl (lv_at hl 0 rfl) ?_
            refine lv_iload_n C.1 C.2.1 dX4_maskFrom_24 rfl (lv_at hl 3 rfl) ?_
            refine lv_iload_n C.1 C.2.1 dX4_maskFrom_25 rfl (lv_at hl 1 rfl) ?_
            obtain ⟨r2, hc, h⟩ := bS h
            refine r_V1 C hK hX hb hP hS hl.1 (kX4_liesBelow (hT) hc) hT cl_4 wd_301 mo_X4_liesBelow wd_302 wd_303 ⟨Nat.le_of_ble_eq_true rfl, Nat.le_of_ble_eq_true rfl⟩ ⟨Nat.le_of_ble_eq_true rfl, Nat.le_of_ble_eq_true rfl⟩ rfl (rest := []) rfl (Nat.le_of_ble_eq_true rfl) dX4_maskFrom_26 (fun H locs hP hS => ?_)
            refine b_eq (tgt := 38) C dX4_maskFrom_29 (by decide) h (fun h => ?_) (fun h => ?_)
            · exact J38 (v2) (v3) _ _ _ hP hS (lv_sub hl [0, 1, 2, 3] rfl) h
            · exact J32 (v2) (v3) _ _ _ hP hS (lv_sub hl [0, 1, 2, 3] rfl) h
      · refine lv_iload_n C.1 C.2.1 dX4_maskFrom_44 rfl (lv_at hl 2 rfl) ?_
        have e := Option.some.inj h
        rw [← e] at hz1
        replace e := itK_inr hz1
        exact q_i C hlk hP hS hr (by rw [← e]) rfl dX4_maskFrom_45
  unfold fX4_maskFrom at h
  refine lv_iconst (v := 0) C.1 C.2.1 dX4_maskFrom_0 (by decide) ?_
  refine lv_istore_n (lv' := [(2, .int 0), (0, .ref a0), (1, .int a1)]) C.1 C.2.1 dX4_maskFrom_1 rfl hl (by decide) rfl (fun ls hl => ?_)
  refine lv_iconst (v := 0) C.1 C.2.1 dX4_maskFrom_2 (by decide) ?_
  refine lv_istore_n (lv' := [(3, .int 0), (2, .int 0), (0, .ref a0), (1, .int a1)]) C.1 C.2.1 dX4_maskFrom_3 rfl hl (by decide) rfl (fun ls hl => ?_)
  exact J4  n (0) (0) _ _ _ hP hS (lv_sub hl [2, 3, 1, 0] rfl) h
theorem dX4_writeFrom_0 : decode cX4_writeFrom 0 = .ok (.iload 4, 2) := by decide +kernel
theorem dX4_writeFrom_2 : decode cX4_writeFrom 2 = .ok (.bipush 24, 2) := by decide +kernel
theorem dX4_writeFrom_4 : decode cX4_writeFrom 4 = .ok (.if_icmp .gt 13, 3) := by decide +kernel
theorem dX4_writeFrom_7 : decode cX4_writeFrom 7 = .ok (.iload_n 3, 1) := by decide +kernel
theorem dX4_writeFrom_8 : decode cX4_writeFrom 8 = .ok (.ifCond .lt 9, 3) := by decide +kernel
theorem dX4_writeFrom_11 : decode cX4_writeFrom 11 = .ok (.iload_n 3, 1) := by decide +kernel
theorem dX4_writeFrom_12 : decode cX4_writeFrom 12 = .ok (.aload_n 2, 1) := by decide +kernel
theorem dX4_writeFrom_13 : decode cX4_writeFrom 13 = .ok (.arraylength, 1) := by decide +kernel
theorem dX4_writeFrom_14 : decode cX4_writeFrom 14 = .ok (.if_icmp .lt 5, 3) := by decide +kernel
theorem dX4_writeFrom_17 : decode cX4_writeFrom 17 = .ok (.iload_n 3, 1) := by decide +kernel
theorem dX4_writeFrom_18 : decode cX4_writeFrom 18 = .ok (.ireturn, 1) := by decide +kernel
theorem dX4_writeFrom_19 : decode cX4_writeFrom 19 = .ok (.aload_n 2, 1) := by decide +kernel
theorem dX4_writeFrom_20 : decode cX4_writeFrom 20 = .ok (.iload_n 3, 1) := by decide +kernel
theorem dX4_writeFrom_21 : decode cX4_writeFrom 21 = .ok (.iload_n 1, 1) := by decide +kernel
theorem dX4_writeFrom_22 : decode cX4_writeFrom 22 = .ok (.iastore, 1) := by decide +kernel
theorem dX4_writeFrom_23 : decode cX4_writeFrom 23 = .ok (.iload_n 3, 1) := by decide +kernel
theorem dX4_writeFrom_24 : decode cX4_writeFrom 24 = .ok (.iconst 1, 1) := by decide +kernel
theorem dX4_writeFrom_25 : decode cX4_writeFrom 25 = .ok (.iadd, 1) := by decide +kernel
theorem dX4_writeFrom_26 : decode cX4_writeFrom 26 = .ok (.istore 5, 2) := by decide +kernel
theorem dX4_writeFrom_28 : decode cX4_writeFrom 28 = .ok (.iconst 0, 1) := by decide +kernel
theorem dX4_writeFrom_29 : decode cX4_writeFrom 29 = .ok (.istore 6, 2) := by decide +kernel
theorem dX4_writeFrom_31 : decode cX4_writeFrom 31 = .ok (.iload 6, 2) := by decide +kernel
theorem dX4_writeFrom_33 : decode cX4_writeFrom 33 = .ok (.aload_n 0, 1) := by decide +kernel
theorem dX4_writeFrom_34 : decode cX4_writeFrom 34 = .ok (.iload_n 1, 1) := by decide +kernel
theorem dX4_writeFrom_35 : decode cX4_writeFrom 35 = .ok (.invokevirtual 81, 3) := by decide +kernel
theorem dX4_writeFrom_38 : decode cX4_writeFrom 38 = .ok (.if_icmp .ge 29, 3) := by decide +kernel
theorem dX4_writeFrom_41 : decode cX4_writeFrom 41 = .ok (.aload_n 0, 1) := by decide +kernel
theorem dX4_writeFrom_42 : decode cX4_writeFrom 42 = .ok (.aload_n 0, 1) := by decide +kernel
theorem dX4_writeFrom_43 : decode cX4_writeFrom 43 = .ok (.iload_n 1, 1) := by decide +kernel
theorem dX4_writeFrom_44 : decode cX4_writeFrom 44 = .ok (.iload 6, 2) := by decide +kernel
theorem dX4_writeFrom_46 : decode cX4_writeFrom 46 = .ok (.invokevirtual 84, 3) := by decide +kernel
theorem dX4_writeFrom_49 : decode cX4_writeFrom 49 = .ok (.aload_n 2, 1) := by decide +kernel
theorem dX4_writeFrom_50 : decode cX4_writeFrom 50 = .ok (.iload 5, 2) := by decide +kernel
theorem dX4_writeFrom_52 : decode cX4_writeFrom 52 = .ok (.iload 4, 2) := by decide +kernel
theorem dX4_writeFrom_54 : decode cX4_writeFrom 54 = .ok (.iconst 1, 1) := by decide +kernel
theorem dX4_writeFrom_55 : decode cX4_writeFrom 55 = .ok (.iadd, 1) := by decide +kernel
theorem dX4_writeFrom_56 : decode cX4_writeFrom 56 = .ok (.invokevirtual 95, 3) := by decide +kernel
theorem dX4_writeFrom_59 : decode cX4_writeFrom 59 = .ok (.istore 5, 2) := by decide +kernel
theorem dX4_writeFrom_61 : decode cX4_writeFrom 61 = .ok (.iinc 6 1, 3) := by decide +kernel
theorem dX4_writeFrom_64 : decode cX4_writeFrom 64 = .ok (.goto (-33), 3) := by decide +kernel
theorem dX4_writeFrom_67 : decode cX4_writeFrom 67 = .ok (.iload 5, 2) := by decide +kernel
theorem dX4_writeFrom_69 : decode cX4_writeFrom 69 = .ok (.ireturn, 1) := by decide +kernel
abbrev rmX4_writeFrom (d : Nat) : Room := { frames := 4 + 1 * d, cells := 0, slots := 0, locals := 100 + 26 * d }
noncomputable def fX4_writeFrom_31b (rec : Mm → Nat → Int32 → Nat → Int32 → Int32 → Option (Int32 × Mm)) (n : Nat) (Sh : Sp) (a0 : Nat) (a1 : Int32) (a2 : Nat) (a3 : Int32) (a4 : Int32) (M : Mm) (v5 : Int32) (v6 : Int32) : Option ((Int32 × Int32 × Mm) ⊕ (Int32 × Mm)) :=
  (fX4_kidCount n Sh M a0 a1).bind fun r1 =>
  if v6 < r1 then
    (fX4_kidAt n Sh M a0 a1 v6).bind fun r2 =>
    (rec M a0 r2 a2 v5 (a4 + 1)).bind fun r3 =>
    some (Sum.inl (r3.1, (v6 + 1), r3.2))
  else
    some (Sum.inr (v5, M))
noncomputable def fX4_writeFrom_31 (rec : Mm → Nat → Int32 → Nat → Int32 → Int32 → Option (Int32 × Mm)) (n : Nat) (Sh : Sp) (a0 : Nat) (a1 : Int32) (a2 : Nat) (a3 : Int32) (a4 : Int32) (M : Mm) (v5 : Int32) (v6 : Int32) : Option (Int32 × Mm) :=
  iter n (fun s => fX4_writeFrom_31b rec n Sh a0 a1 a2 a3 a4 s.2.2 s.1 s.2.1) (v5, v6, M)
noncomputable def fX4_writeFrom_body (rec : Mm → Nat → Int32 → Nat → Int32 → Int32 → Option (Int32 × Mm)) (n : Nat) (Sh : Sp) (M : Mm) (a0 : Nat) (a1 : Int32) (a2 : Nat) (a3 : Int32) (a4 : Int32) : Option (Int32 × Mm) :=
  if a4 ≤ 24 then
    if a3 < 0 then
      some (a3, M)
    else
      aN Sh a2 fun x4 =>
      if a3 < x4 then
        sI Sh M a2 a3 a1 fun M5 =>
        fX4_writeFrom_31 rec n Sh a0 a1 a2 a3 a4 M5 (a3 + 1) 0
      else
        some (a3, M)
  else
    some (a3, M)
set_option maxRecDepth 100000 in
set_option maxHeartbeats 4000000 in
theorem kX4_writeFrom_body {l : Launch} {G : Gt} {n : Nat} {Sh : Sp} {d : Nat} {rec : Mm → Nat → Int32 → Nat → Int32 → Int32 → Option (Int32 × Mm)} (hrec : ∀ {M : Mm} {a0 : Nat} {a1 : Int32} {a2 : Nat} {a3 a4 : Int32} {r : Int32 × Mm}, Sh a0 = some (.inl 4) → rec M a0 a1 a2 a3 a4 = some r → Ct l yX4_writeFrom cX4_writeFrom 7 (some .int) (rmX4_writeFrom d) G Sh M [.ref a0, .int a1, .ref a2, .int a3, .int a4] (some (.int r.1)) r.2) {M : Mm} {a0 : Nat} {a1 : Int32} {a2 : Nat} {a3 : Int32} {a4 : Int32} (hT : Sh a0 = some (.inl 4)) {r : (Int32 × Mm)} (h : fX4_writeFrom_body rec n Sh M a0 a1 a2 a3 a4 = some r) : Ct l yX4_writeFrom cX4_writeFrom 7 (some .int) (rmX4_writeFrom (d + 1)) G Sh M [.ref a0, .int a1, .ref a2, .int a3, .int a4] (some (.int r.1)) r.2 := by
  refine Ct.of (by decide) (Nat.le_of_ble_eq_true rfl) ?_
  intro p e s m args below meth c ls C hK hX hP hS hb hlk hr hl
  replace hl : lv_has ls 7 [(0, .ref a0), (1, .int a1), (2, .ref a2), (3, .int a3), (4, .int a4)] := hl
  have J31 : ∀ (k : Nat) (v5 : Int32) (v6 : Int32) (M : Mm) (H : Heap) (locs : List Loc) (ls : Array Slot), HM G Sh M H → SS G s s.heap.size H locs → lv_has ls 7 [(0, .ref a0), (1, .int a1), (2, .ref a2), (3, .int a3), (4, .int a4), (5, .int v5), (6, .int v6)] → iter k (fun s => fX4_writeFrom_31b rec n Sh a0 a1 a2 a3 a4 s.2.2 s.1 s.2.1) (v5, v6, M) = some r → W p l e (rmX4_writeFrom (d + 1)) s m args below meth c H locs 0 0 (MQ below (QG G Sh r.2 (some (.int r.1))) args s (rmX4_writeFrom (d + 1)).cells (rmX4_writeFrom (d + 1)).slots (AA G)) (F0 m 31 ls []) := by
    intro k
    induction k with
    | zero => intro v5 v6 M H locs ls hP hS hl h; exact (iter_0 h).elim
    | succ k ih1 =>
      intro v5 v6 M H locs ls hP hS hl h
      obtain ⟨z1, h, hz1⟩ := iter_some h
      replace h : fX4_writeFrom_31b rec n Sh a0 a1 a2 a3 a4 M v5 v6 = some z1 := h
      unfold fX4_writeFrom_31b at h
      refine lv_iload C.1 C.2.1 dX4_writeFrom_31 (lv_at hl 6 rfl) ?_
      refine lv_aload_n C.1 C.2.1 dX4_writeFrom_33 rfl (lv_at hl 0 rfl) ?_
      refine lv_iload_n C.1 C.2.1 dX4_writeFrom_34 rfl (lv_at hl 1 rfl) ?_
      obtain ⟨r1, hc, h⟩ := bS h
      refine r_V1 C hK hX hb hP hS hl.1 (kX4_kidCount (hT) hc) hT cl_4 wd_321 mo_X4_kidCount wd_322 wd_323 (by constructor <;> first | exact Nat.le_of_ble_eq_true rfl | (simp only [rmX4_kidCount, rmX4_writeFrom]; omega)) ⟨Nat.le_of_ble_eq_true rfl, Nat.le_of_ble_eq_true rfl⟩ rfl (rest := [.int v6]) rfl (Nat.le_of_ble_eq_true rfl) dX4_writeFrom_35 (fun H locs hP hS => ?_)
      refine b_ige (tgt := 67) C dX4_writeFrom_38 (by decide) h (fun h => ?_) (fun h => ?_)
      · refine lv_aload_n C.1 C.2.1 dX4_writeFrom_41 rfl (lv_at hl 0 rfl) ?_
        refine lv_aload_n C.1 C.2.1 dX4_writeFrom_42 rfl (lv_at hl 0 rfl) ?_
        refine lv_iload_n C.1 C.2.1 dX4_writeFrom_43 rfl (lv_at hl 1 rfl) ?_
        refine lv_iload C.1 C.2.1 dX4_writeFrom_44 (lv_at hl 6 rfl) ?_
        obtain ⟨r2, hc, h⟩ := bS h
        refine r_V1 C hK hX hb hP hS hl.1 (kX4_kidAt (hT) hc) hT cl_4 wd_325 mo_X4_kidAt wd_326 wd_327 (by constructor <;> first | exact Nat.le_of_ble_eq_true rfl | (simp only [rmX4_kidAt, rmX4_writeFrom]; omega)) ⟨Nat.le_of_ble_eq_true rfl, Nat.le_of_ble_eq_true rfl⟩ rfl (rest := [.ref a0]) rfl (Nat.le_of_ble_eq_true rfl) dX4_writeFrom_46 (fun H locs hP hS => ?_)
        refine lv_aload_n C.1 C.2.1 dX4_writeFrom_49 rfl (lv_at hl 2 rfl) ?_
        refine lv_iload C.1 C.2.1 dX4_writeFrom_50 (lv_at hl 5 rfl) ?_
        refine lv_iload C.1 C.2.1 dX4_writeFrom_52 (lv_at hl 4 rfl) ?_
        refine lv_iconst (v := 1) C.1 C.2.1 dX4_writeFrom_54 (by decide) ?_
        refine lv_iadd C.1 C.2.1 dX4_writeFrom_55 ?_
        obtain ⟨r3, hc, h⟩ := bS h
        refine r_V1 C hK hX hb hP hS hl.1 (hrec (hT) hc) hT cl_4 wd_317 mo_X4_writeFrom wd_319 wd_0 (by constructor <;> first | exact Nat.le_of_ble_eq_true rfl | (simp only [rmX4_writeFrom, rmX4_writeFrom]; omega)) ⟨Nat.le_of_ble_eq_true rfl, Nat.le_of_ble_eq_true rfl⟩ rfl (rest := []) rfl (Nat.le_of_ble_eq_true rfl) dX4_writeFrom_56 (fun H locs hP hS => ?_)
        refine lv_istore (lv' := [(5, .int r3.1), (0, .ref a0), (1, .int a1), (2, .ref a2), (3, .int a3), (4, .int a4), (6, .int v6)]) C.1 C.2.1 dX4_writeFrom_59 hl (by decide) rfl (fun ls hl => ?_)
        refine lv_iinc (v := (v6 + 1)) (lv' := [(6, .int (v6 + 1)), (5, .int r3.1), (0, .ref a0), (1, .int a1), (2, .ref a2), (3, .int a3), (4, .int a4)]) C.1 C.2.1 dX4_writeFrom_61 hl (k := 6) rfl rfl (by decide) rfl (fun ls hl => ?_)
        refine lv_goto (tgt := 31) C.1 C.2.1 dX4_writeFrom_64 (by decide) ?_
        have e := Option.some.inj h
        rw [← e] at hz1
        exact ih1 (r3.1) ((v6 + 1)) r3.2 _ _ _ hP hS (lv_sub hl [2, 3, 4, 5, 6, 1, 0] rfl) (itK_inl hz1)
      · refine lv_iload C.1 C.2.1 dX4_writeFrom_67 (lv_at hl 5 rfl) ?_
        have e := Option.some.inj h
        rw [← e] at hz1
        replace e := itK_inr hz1
        exact q_i C hlk hP hS hr (by rw [← e]) (by rw [← e]) dX4_writeFrom_69
  unfold fX4_writeFrom_body at h
  refine lv_iload C.1 C.2.1 dX4_writeFrom_0 (lv_at hl 4 rfl) ?_
  refine lv_bipush (v := 24) C.1 C.2.1 dX4_writeFrom_2 (by decide) ?_
  refine b_igt (tgt := 17) C dX4_writeFrom_4 (by decide) h (fun h => ?_) (fun h => ?_)
  · refine lv_iload_n C.1 C.2.1 dX4_writeFrom_7 rfl (lv_at hl 3 rfl) ?_
    refine b_lt (tgt := 17) C dX4_writeFrom_8 (by decide) h (fun h => ?_) (fun h => ?_)
    · refine lv_iload_n C.1 C.2.1 dX4_writeFrom_17 rfl (lv_at hl 3 rfl) ?_
      have e := Option.some.inj h
      exact q_i C hlk hP hS hr (by rw [← e]) (by rw [← e]) dX4_writeFrom_18
    · refine lv_iload_n C.1 C.2.1 dX4_writeFrom_11 rfl (lv_at hl 3 rfl) ?_
      refine lv_aload_n C.1 C.2.1 dX4_writeFrom_12 rfl (lv_at hl 2 rfl) ?_
      refine r_aN C hK hP dX4_writeFrom_13 h (fun x4 h => ?_)
      refine b_ilt (tgt := 19) C dX4_writeFrom_14 (by decide) h (fun h => ?_) (fun h => ?_)
      · refine lv_aload_n C.1 C.2.1 dX4_writeFrom_19 rfl (lv_at hl 2 rfl) ?_
        refine lv_iload_n C.1 C.2.1 dX4_writeFrom_20 rfl (lv_at hl 3 rfl) ?_
        refine lv_iload_n C.1 C.2.1 dX4_writeFrom_21 rfl (lv_at hl 1 rfl) ?_
        refine r_sI C hK hP hS dX4_writeFrom_22 h (fun M5 H locs h hP hS => ?_)
        refine lv_iload_n C.1 C.2.1 dX4_writeFrom_23 rfl (lv_at hl 3 rfl) ?_
        refine lv_iconst (v := 1) C.1 C.2.1 dX4_writeFrom_24 (by decide) ?_
        refine lv_iadd C.1 C.2.1 dX4_writeFrom_25 ?_
        refine lv_istore (lv' := [(5, .int (a3 + 1)), (0, .ref a0), (1, .int a1), (2, .ref a2), (3, .int a3), (4, .int a4)]) C.1 C.2.1 dX4_writeFrom_26 hl (by decide) rfl (fun ls hl => ?_)
        refine lv_iconst (v := 0) C.1 C.2.1 dX4_writeFrom_28 (by decide) ?_
        refine lv_istore (lv' := [(6, .int 0), (5, .int (a3 + 1)), (0, .ref a0), (1, .int a1), (2, .ref a2), (3, .int a3), (4, .int a4)]) C.1 C.2.1 dX4_writeFrom_29 hl (by decide) rfl (fun ls hl => ?_)
        exact J31  n ((a3 + 1)) (0) M5 _ _ _ hP hS (lv_sub hl [2, 3, 4, 5, 6, 1, 0] rfl) h
      · refine lv_iload_n C.1 C.2.1 dX4_writeFrom_17 rfl (lv_at hl 3 rfl) ?_
        have e := Option.some.inj h
        exact q_i C hlk hP hS hr (by rw [← e]) (by rw [← e]) dX4_writeFrom_18
  · refine lv_iload_n C.1 C.2.1 dX4_writeFrom_17 rfl (lv_at hl 3 rfl) ?_
    have e := Option.some.inj h
    exact q_i C hlk hP hS hr (by rw [← e]) (by rw [← e]) dX4_writeFrom_18
noncomputable def fX4_writeFrom (n : Nat) : Nat → Sp → Mm → Nat → Int32 → Nat → Int32 → Int32 → Option (Int32 × Mm)
  | 0 => fun _ _ _ _ _ _ _ => none
  | d + 1 => fun Sh M a0 a1 a2 a3 a4 => fX4_writeFrom_body (fX4_writeFrom n d Sh) n Sh M a0 a1 a2 a3 a4
theorem kX4_writeFrom {l : Launch} {G : Gt} {n : Nat} {Sh : Sp} : ∀ (d : Nat) {M : Mm} {a0 : Nat} {a1 : Int32} {a2 : Nat} {a3 a4 : Int32} (hT : Sh a0 = some (.inl 4)) {r : Int32 × Mm} (h : fX4_writeFrom n d Sh M a0 a1 a2 a3 a4 = some r), Ct l yX4_writeFrom cX4_writeFrom 7 (some .int) (rmX4_writeFrom d) G Sh M [.ref a0, .int a1, .ref a2, .int a3, .int a4] (some (.int r.1)) r.2 := by
  intro d
  induction d with
  | zero => intro M a0 a1 a2 a3 a4 hT r h; cases h
  | succ d ih => intro M a0 a1 a2 a3 a4 hT r h; exact kX4_writeFrom_body (fun hT h => ih hT h) hT h

theorem dX4_writeOrder_0 : decode cX4_writeOrder 0 = .ok (.aload_n 0, 1) := by decide +kernel
theorem dX4_writeOrder_1 : decode cX4_writeOrder 1 = .ok (.iconst 0, 1) := by decide +kernel
theorem dX4_writeOrder_2 : decode cX4_writeOrder 2 = .ok (.aload_n 1, 1) := by decide +kernel
theorem dX4_writeOrder_3 : decode cX4_writeOrder 3 = .ok (.iconst 0, 1) := by decide +kernel
theorem dX4_writeOrder_4 : decode cX4_writeOrder 4 = .ok (.iconst 0, 1) := by decide +kernel
theorem dX4_writeOrder_5 : decode cX4_writeOrder 5 = .ok (.invokevirtual 95, 3) := by decide +kernel
theorem dX4_writeOrder_8 : decode cX4_writeOrder 8 = .ok (.ireturn, 1) := by decide +kernel
abbrev rmX4_writeOrder : Room := { frames := 32, cells := 0, slots := 0, locals := 828 }
noncomputable def fX4_writeOrder (n : Nat) (Sh : Sp) (M : Mm) (a0 : Nat) (a1 : Nat) : Option (Int32 × Mm) :=
  (fX4_writeFrom n 27 Sh M a0 0 a1 0 0).bind fun r1 =>
  some (r1.1, r1.2)
set_option maxRecDepth 100000 in
set_option maxHeartbeats 4000000 in
theorem kX4_writeOrder {l : Launch} {G : Gt} {n : Nat} {Sh : Sp} {M : Mm} {a0 : Nat} {a1 : Nat} (hT : Sh a0 = some (.inl 4)) {r : (Int32 × Mm)} (h : fX4_writeOrder n Sh M a0 a1 = some r) : Ct l yX4_writeOrder cX4_writeOrder 2 (some .int) rmX4_writeOrder G Sh M [.ref a0, .ref a1] (some (.int r.1)) r.2 := by
  refine Ct.of (by decide) (Nat.le_of_ble_eq_true rfl) ?_
  intro p e s m args below meth c ls C hK hX hP hS hb hlk hr hl
  replace hl : lv_has ls 2 [(0, .ref a0), (1, .ref a1)] := hl
  unfold fX4_writeOrder at h
  refine lv_aload_n C.1 C.2.1 dX4_writeOrder_0 rfl (lv_at hl 0 rfl) ?_
  refine lv_iconst (v := 0) C.1 C.2.1 dX4_writeOrder_1 (by decide) ?_
  refine lv_aload_n C.1 C.2.1 dX4_writeOrder_2 rfl (lv_at hl 1 rfl) ?_
  refine lv_iconst (v := 0) C.1 C.2.1 dX4_writeOrder_3 (by decide) ?_
  refine lv_iconst (v := 0) C.1 C.2.1 dX4_writeOrder_4 (by decide) ?_
  obtain ⟨r1, hc, h⟩ := bS h
  refine r_V1 C hK hX hb hP hS hl.1 (kX4_writeFrom 27 (hT) hc) hT cl_4 wd_317 mo_X4_writeFrom wd_319 wd_0 ⟨Nat.le_of_ble_eq_true rfl, Nat.le_of_ble_eq_true rfl⟩ ⟨Nat.le_of_ble_eq_true rfl, Nat.le_of_ble_eq_true rfl⟩ rfl (rest := []) rfl (Nat.le_of_ble_eq_true rfl) dX4_writeOrder_5 (fun H locs hP hS => ?_)
  have e := Option.some.inj h
  exact q_i C hlk hP hS hr (by rw [← e]) (by rw [← e]) dX4_writeOrder_8
theorem dX6_isIn_0 : decode cX6_isIn 0 = .ok (.iload_n 1, 1) := by decide +kernel
theorem dX6_isIn_1 : decode cX6_isIn 1 = .ok (.ifCond .lt 22, 3) := by decide +kernel
theorem dX6_isIn_4 : decode cX6_isIn 4 = .ok (.iload_n 1, 1) := by decide +kernel
theorem dX6_isIn_5 : decode cX6_isIn 5 = .ok (.bipush 24, 2) := by decide +kernel
theorem dX6_isIn_7 : decode cX6_isIn 7 = .ok (.if_icmp .ge 16, 3) := by decide +kernel
theorem dX6_isIn_10 : decode cX6_isIn 10 = .ok (.iload_n 0, 1) := by decide +kernel
theorem dX6_isIn_11 : decode cX6_isIn 11 = .ok (.iload_n 1, 1) := by decide +kernel
theorem dX6_isIn_12 : decode cX6_isIn 12 = .ok (.ishr, 1) := by decide +kernel
theorem dX6_isIn_13 : decode cX6_isIn 13 = .ok (.iconst 1, 1) := by decide +kernel
theorem dX6_isIn_14 : decode cX6_isIn 14 = .ok (.iand, 1) := by decide +kernel
theorem dX6_isIn_15 : decode cX6_isIn 15 = .ok (.iconst 1, 1) := by decide +kernel
theorem dX6_isIn_16 : decode cX6_isIn 16 = .ok (.if_icmp .ne 7, 3) := by decide +kernel
theorem dX6_isIn_19 : decode cX6_isIn 19 = .ok (.iconst 1, 1) := by decide +kernel
theorem dX6_isIn_20 : decode cX6_isIn 20 = .ok (.goto 4, 3) := by decide +kernel
theorem dX6_isIn_23 : decode cX6_isIn 23 = .ok (.iconst 0, 1) := by decide +kernel
theorem dX6_isIn_24 : decode cX6_isIn 24 = .ok (.ireturn, 1) := by decide +kernel
abbrev rmX6_isIn : Room := { frames := 1, cells := 0, slots := 0, locals := 40 }
noncomputable def fX6_isIn (n : Nat) (Sh : Sp) (M : Mm) (a0 : Int32) (a1 : Int32) : Option Int32 :=
  if a1 < 0 then
    some 0
  else
    if a1 < 24 then
      if ((a0 >>> (a1 &&& 31)) &&& 1) = 1 then
        some 1
      else
        some 0
    else
      some 0
set_option maxRecDepth 100000 in
set_option maxHeartbeats 4000000 in
theorem kX6_isIn {l : Launch} {G : Gt} {n : Nat} {Sh : Sp} {M : Mm} {a0 : Int32} {a1 : Int32} {r : Int32} (h : fX6_isIn n Sh M a0 a1 = some r) : Ct l yX6_isIn cX6_isIn 2 (some .boolean) rmX6_isIn G Sh M [.int a0, .int a1] (some (.int r)) M := by
  refine Ct.of (by decide) (Nat.le_of_ble_eq_true rfl) ?_
  intro p e s m args below meth c ls C hK hX hP hS hb hlk hr hl
  replace hl : lv_has ls 2 [(0, .int a0), (1, .int a1)] := hl
  unfold fX6_isIn at h
  refine lv_iload_n C.1 C.2.1 dX6_isIn_0 rfl (lv_at hl 1 rfl) ?_
  refine b_lt (tgt := 23) C dX6_isIn_1 (by decide) h (fun h => ?_) (fun h => ?_)
  · refine lv_iconst (v := 0) C.1 C.2.1 dX6_isIn_23 (by decide) ?_
    have e := Option.some.inj h
    exact q_z C hlk hP hS hr (by decide) (by rw [← e]) rfl dX6_isIn_24
  · refine lv_iload_n C.1 C.2.1 dX6_isIn_4 rfl (lv_at hl 1 rfl) ?_
    refine lv_bipush (v := 24) C.1 C.2.1 dX6_isIn_5 (by decide) ?_
    refine b_ige (tgt := 23) C dX6_isIn_7 (by decide) h (fun h => ?_) (fun h => ?_)
    · refine lv_iload_n C.1 C.2.1 dX6_isIn_10 rfl (lv_at hl 0 rfl) ?_
      refine lv_iload_n C.1 C.2.1 dX6_isIn_11 rfl (lv_at hl 1 rfl) ?_
      refine lv_ishr C.1 C.2.1 dX6_isIn_12 ?_
      refine lv_iconst (v := 1) C.1 C.2.1 dX6_isIn_13 (by decide) ?_
      refine lv_iand C.1 C.2.1 dX6_isIn_14 ?_
      refine lv_iconst (v := 1) C.1 C.2.1 dX6_isIn_15 (by decide) ?_
      refine b_ine (tgt := 23) C dX6_isIn_16 (by decide) h (fun h => ?_) (fun h => ?_)
      · refine lv_iconst (v := 1) C.1 C.2.1 dX6_isIn_19 (by decide) ?_
        refine lv_goto (tgt := 24) C.1 C.2.1 dX6_isIn_20 (by decide) ?_
        have e := Option.some.inj h
        exact q_z C hlk hP hS hr (by decide) (by rw [← e]) rfl dX6_isIn_24
      · refine lv_iconst (v := 0) C.1 C.2.1 dX6_isIn_23 (by decide) ?_
        have e := Option.some.inj h
        exact q_z C hlk hP hS hr (by decide) (by rw [← e]) rfl dX6_isIn_24
    · refine lv_iconst (v := 0) C.1 C.2.1 dX6_isIn_23 (by decide) ?_
      have e := Option.some.inj h
      exact q_z C hlk hP hS hr (by decide) (by rw [← e]) rfl dX6_isIn_24
theorem dX4_drop_0 : decode cX4_drop 0 = .ok (.iconst 0, 1) := by decide +kernel
theorem dX4_drop_1 : decode cX4_drop 1 = .ok (.istore_n 2, 1) := by decide +kernel
theorem dX4_drop_2 : decode cX4_drop 2 = .ok (.iload_n 2, 1) := by decide +kernel
theorem dX4_drop_3 : decode cX4_drop 3 = .ok (.bipush 24, 2) := by decide +kernel
theorem dX4_drop_5 : decode cX4_drop 5 = .ok (.if_icmp .ge 80, 3) := by decide +kernel
theorem dX4_drop_8 : decode cX4_drop 8 = .ok (.iload_n 1, 1) := by decide +kernel
theorem dX4_drop_9 : decode cX4_drop 9 = .ok (.iload_n 2, 1) := by decide +kernel
theorem dX4_drop_10 : decode cX4_drop 10 = .ok (.invokestatic 99, 3) := by decide +kernel
theorem dX4_drop_13 : decode cX4_drop 13 = .ok (.ifCond .eq 26, 3) := by decide +kernel
theorem dX4_drop_16 : decode cX4_drop 16 = .ok (.iload_n 1, 1) := by decide +kernel
theorem dX4_drop_17 : decode cX4_drop 17 = .ok (.aload_n 0, 1) := by decide +kernel
theorem dX4_drop_18 : decode cX4_drop 18 = .ok (.iload_n 2, 1) := by decide +kernel
theorem dX4_drop_19 : decode cX4_drop 19 = .ok (.invokevirtual 77, 3) := by decide +kernel
theorem dX4_drop_22 : decode cX4_drop 22 = .ok (.invokestatic 99, 3) := by decide +kernel
theorem dX4_drop_25 : decode cX4_drop 25 = .ok (.ifCond .ne 8, 3) := by decide +kernel
theorem dX4_drop_28 : decode cX4_drop 28 = .ok (.aload_n 0, 1) := by decide +kernel
theorem dX4_drop_29 : decode cX4_drop 29 = .ok (.iload_n 2, 1) := by decide +kernel
theorem dX4_drop_30 : decode cX4_drop 30 = .ok (.invokevirtual 102, 3) := by decide +kernel
theorem dX4_drop_33 : decode cX4_drop 33 = .ok (.aload_n 0, 1) := by decide +kernel
theorem dX4_drop_34 : decode cX4_drop 34 = .ok (.iload_n 2, 1) := by decide +kernel
theorem dX4_drop_35 : decode cX4_drop 35 = .ok (.iconst (-1), 1) := by decide +kernel
theorem dX4_drop_36 : decode cX4_drop 36 = .ok (.invokevirtual 56, 3) := by decide +kernel
theorem dX4_drop_39 : decode cX4_drop 39 = .ok (.iload_n 1, 1) := by decide +kernel
theorem dX4_drop_40 : decode cX4_drop 40 = .ok (.aload_n 0, 1) := by decide +kernel
theorem dX4_drop_41 : decode cX4_drop 41 = .ok (.getfield 24, 3) := by decide +kernel
theorem dX4_drop_44 : decode cX4_drop 44 = .ok (.iload_n 2, 1) := by decide +kernel
theorem dX4_drop_45 : decode cX4_drop 45 = .ok (.iaload, 1) := by decide +kernel
theorem dX4_drop_46 : decode cX4_drop 46 = .ok (.invokestatic 99, 3) := by decide +kernel
theorem dX4_drop_49 : decode cX4_drop 49 = .ok (.ifCond .eq 10, 3) := by decide +kernel
theorem dX4_drop_52 : decode cX4_drop 52 = .ok (.aload_n 0, 1) := by decide +kernel
theorem dX4_drop_53 : decode cX4_drop 53 = .ok (.getfield 24, 3) := by decide +kernel
theorem dX4_drop_56 : decode cX4_drop 56 = .ok (.iload_n 2, 1) := by decide +kernel
theorem dX4_drop_57 : decode cX4_drop 57 = .ok (.iconst (-1), 1) := by decide +kernel
theorem dX4_drop_58 : decode cX4_drop 58 = .ok (.iastore, 1) := by decide +kernel
theorem dX4_drop_59 : decode cX4_drop 59 = .ok (.iload_n 1, 1) := by decide +kernel
theorem dX4_drop_60 : decode cX4_drop 60 = .ok (.aload_n 0, 1) := by decide +kernel
theorem dX4_drop_61 : decode cX4_drop 61 = .ok (.getfield 46, 3) := by decide +kernel
theorem dX4_drop_64 : decode cX4_drop 64 = .ok (.iload_n 2, 1) := by decide +kernel
theorem dX4_drop_65 : decode cX4_drop 65 = .ok (.iaload, 1) := by decide +kernel
theorem dX4_drop_66 : decode cX4_drop 66 = .ok (.invokestatic 99, 3) := by decide +kernel
theorem dX4_drop_69 : decode cX4_drop 69 = .ok (.ifCond .eq 10, 3) := by decide +kernel
theorem dX4_drop_72 : decode cX4_drop 72 = .ok (.aload_n 0, 1) := by decide +kernel
theorem dX4_drop_73 : decode cX4_drop 73 = .ok (.getfield 46, 3) := by decide +kernel
theorem dX4_drop_76 : decode cX4_drop 76 = .ok (.iload_n 2, 1) := by decide +kernel
theorem dX4_drop_77 : decode cX4_drop 77 = .ok (.iconst (-1), 1) := by decide +kernel
theorem dX4_drop_78 : decode cX4_drop 78 = .ok (.iastore, 1) := by decide +kernel
theorem dX4_drop_79 : decode cX4_drop 79 = .ok (.iinc 2 1, 3) := by decide +kernel
theorem dX4_drop_82 : decode cX4_drop 82 = .ok (.goto (-80), 3) := by decide +kernel
theorem dX4_drop_85 : decode cX4_drop 85 = .ok (.return_, 1) := by decide +kernel
abbrev rmX4_drop : Room := { frames := 4, cells := 0, slots := 0, locals := 109 }
noncomputable def fX4_drop_79 (n : Nat) (Sh : Sp) (a0 : Nat) (a1 : Int32) (M : Mm) (v2 : Int32) : Option ((Int32 × Mm) ⊕ Mm) :=
  some (Sum.inl ((v2 + 1), M))
noncomputable def fX4_drop_59 (n : Nat) (Sh : Sp) (a0 : Nat) (a1 : Int32) (M : Mm) (v2 : Int32) : Option ((Int32 × Mm) ⊕ Mm) :=
  tF M a0 10 fun b1 =>
  aI Sh M b1 0 v2 fun x2 =>
  (fX6_isIn n Sh M a1 x2).bind fun r3 =>
  if r3 = 0 then
    fX4_drop_79 n Sh a0 a1 M v2
  else
    tF M a0 10 fun b4 =>
    sI Sh M b4 v2 (-1) fun M5 =>
    fX4_drop_79 n Sh a0 a1 M5 v2
noncomputable def fX4_drop_39 (n : Nat) (Sh : Sp) (a0 : Nat) (a1 : Int32) (M : Mm) (v2 : Int32) : Option ((Int32 × Mm) ⊕ Mm) :=
  tF M a0 4 fun b6 =>
  aI Sh M b6 0 v2 fun x7 =>
  (fX6_isIn n Sh M a1 x7).bind fun r8 =>
  if r8 = 0 then
    fX4_drop_59 n Sh a0 a1 M v2
  else
    tF M a0 4 fun b9 =>
    sI Sh M b9 v2 (-1) fun M10 =>
    fX4_drop_59 n Sh a0 a1 M10 v2
noncomputable def fX4_drop_33 (n : Nat) (Sh : Sp) (a0 : Nat) (a1 : Int32) (M : Mm) (v2 : Int32) : Option ((Int32 × Mm) ⊕ Mm) :=
  (fX4_begin n Sh M a0 v2 (-1)).bind fun r11 =>
  fX4_drop_39 n Sh a0 a1 r11 v2
noncomputable def fX4_drop_2b (n : Nat) (Sh : Sp) (a0 : Nat) (a1 : Int32) (M : Mm) (v2 : Int32) : Option ((Int32 × Mm) ⊕ Mm) :=
  if v2 < 24 then
    (fX6_isIn n Sh M a1 v2).bind fun r12 =>
    if r12 = 0 then
      fX4_drop_39 n Sh a0 a1 M v2
    else
      (fX4_parentOf n Sh M a0 v2).bind fun r13 =>
      (fX6_isIn n Sh M a1 r13).bind fun r14 =>
      if r14 = 0 then
        (fX4_detach n Sh M a0 v2).bind fun r15 =>
        fX4_drop_33 n Sh a0 a1 r15 v2
      else
        fX4_drop_33 n Sh a0 a1 M v2
  else
    some (Sum.inr M)
noncomputable def fX4_drop_2 (n : Nat) (Sh : Sp) (a0 : Nat) (a1 : Int32) (M : Mm) (v2 : Int32) : Option Mm :=
  iter n (fun s => fX4_drop_2b n Sh a0 a1 s.2 s.1) (v2, M)
noncomputable def fX4_drop (n : Nat) (Sh : Sp) (M : Mm) (a0 : Nat) (a1 : Int32) : Option Mm :=
  fX4_drop_2 n Sh a0 a1 M 0
set_option maxRecDepth 100000 in
set_option maxHeartbeats 4000000 in
theorem kX4_drop {l : Launch} {G : Gt} {n : Nat} {Sh : Sp} {M : Mm} {a0 : Nat} {a1 : Int32} (hT : Sh a0 = some (.inl 4)) {r : Mm} (h : fX4_drop n Sh M a0 a1 = some r) : Ct l yX4_drop cX4_drop 3 none rmX4_drop G Sh M [.ref a0, .int a1] none r := by
  refine Ct.of (by decide) (Nat.le_of_ble_eq_true rfl) ?_
  intro p e s m args below meth c ls C hK hX hP hS hb hlk hr hl
  replace hl : lv_has ls 3 [(0, .ref a0), (1, .int a1)] := hl
  have J2 : ∀ (k : Nat) (v2 : Int32) (M : Mm) (H : Heap) (locs : List Loc) (ls : Array Slot), HM G Sh M H → SS G s s.heap.size H locs → lv_has ls 3 [(0, .ref a0), (1, .int a1), (2, .int v2)] → iter k (fun s => fX4_drop_2b n Sh a0 a1 s.2 s.1) (v2, M) = some r → W p l e rmX4_drop s m args below meth c H locs 0 0 (MQ below (QG G Sh r none) args s rmX4_drop.cells rmX4_drop.slots (AA G)) (F0 m 2 ls []) := by
    intro k
    induction k with
    | zero => intro v2 M H locs ls hP hS hl h; exact (iter_0 h).elim
    | succ k ih1 =>
      intro v2 M H locs ls hP hS hl h
      obtain ⟨z1, h, hz1⟩ := iter_some h
      replace h : fX4_drop_2b n Sh a0 a1 M v2 = some z1 := h
      have J79 : ∀ (M : Mm) (v2 : Int32) (H : Heap) (locs : List Loc) (ls : Array Slot), HM G Sh M H → SS G s s.heap.size H locs → lv_has ls 3 [(0, .ref a0), (1, .int a1), (2, .int v2)] → fX4_drop_79 n Sh a0 a1 M v2 = some z1 → W p l e rmX4_drop s m args below meth c H locs 0 0 (MQ below (QG G Sh r none) args s rmX4_drop.cells rmX4_drop.slots (AA G)) (F0 m 79 ls []) := by
        intro M v2 H locs ls hP hS hl h
        unfold fX4_drop_79 at h
        refine lv_iinc (v := (v2 + 1)) (lv' := [(2, .int (v2 + 1)), (0, .ref a0), (1, .int a1)]) C.1 C.2.1 dX4_drop_79 hl (k := 2) rfl rfl (by decide) rfl (fun ls hl => ?_)
        refine lv_goto (tgt := 2) C.1 C.2.1 dX4_drop_82 (by decide) ?_
        have e := Option.some.inj h
        rw [← e] at hz1
        exact ih1 ((v2 + 1)) M _ _ _ hP hS (lv_sub hl [1, 2, 0] rfl) (itK_inl hz1)
      have J59 : ∀ (M : Mm) (v2 : Int32) (H : Heap) (locs : List Loc) (ls : Array Slot), HM G Sh M H → SS G s s.heap.size H locs → lv_has ls 3 [(0, .ref a0), (1, .int a1), (2, .int v2)] → fX4_drop_59 n Sh a0 a1 M v2 = some z1 → W p l e rmX4_drop s m args below meth c H locs 0 0 (MQ below (QG G Sh r none) args s rmX4_drop.cells rmX4_drop.slots (AA G)) (F0 m 59 ls []) := by
        intro M v2 H locs ls hP hS hl h
        unfold fX4_drop_59 at h
        refine lv_iload_n C.1 C.2.1 dX4_drop_59 rfl (lv_at hl 1 rfl) ?_
        refine lv_aload_n C.1 C.2.1 dX4_drop_60 rfl (lv_at hl 0 rfl) ?_
        refine r_tF C hK hP hT cl_4 (k := 10) (by decide) wd_154 rfl dX4_drop_61 h (fun b1 h => ?_)
        refine lv_iload_n C.1 C.2.1 dX4_drop_64 rfl (lv_at hl 2 rfl) ?_
        refine r_aI C hK hP dX4_drop_65 h (fun x2 h => ?_)
        obtain ⟨r3, hc, h⟩ := bS h
        refine r_SN1 C hK hX hb hP hS hl.1 (kX6_isIn hc) (hX.nws wd_802) mo_X6_isIn wd_803 ⟨Nat.le_of_ble_eq_true rfl, Nat.le_of_ble_eq_true rfl⟩ ⟨Nat.le_of_ble_eq_true rfl, Nat.le_of_ble_eq_true rfl⟩ rfl (rest := []) rfl (Nat.le_of_ble_eq_true rfl) dX4_drop_66 (fun H locs hP hS => ?_)
        refine b_eq (tgt := 79) C dX4_drop_69 (by decide) h (fun h => ?_) (fun h => ?_)
        · exact J79 (M) (v2) _ _ _ hP hS (lv_sub hl [0, 1, 2] rfl) h
        · refine lv_aload_n C.1 C.2.1 dX4_drop_72 rfl (lv_at hl 0 rfl) ?_
          refine r_tF C hK hP hT cl_4 (k := 10) (by decide) wd_154 rfl dX4_drop_73 h (fun b4 h => ?_)
          refine lv_iload_n C.1 C.2.1 dX4_drop_76 rfl (lv_at hl 2 rfl) ?_
          refine lv_iconst (v := (-1)) C.1 C.2.1 dX4_drop_77 (by decide) ?_
          refine r_sI C hK hP hS dX4_drop_78 h (fun M5 H locs h hP hS => ?_)
          exact J79 (M5) (v2) _ _ _ hP hS (lv_sub hl [0, 1, 2] rfl) h
      have J39 : ∀ (M : Mm) (v2 : Int32) (H : Heap) (locs : List Loc) (ls : Array Slot), HM G Sh M H → SS G s s.heap.size H locs → lv_has ls 3 [(0, .ref a0), (1, .int a1), (2, .int v2)] → fX4_drop_39 n Sh a0 a1 M v2 = some z1 → W p l e rmX4_drop s m args below meth c H locs 0 0 (MQ below (QG G Sh r none) args s rmX4_drop.cells rmX4_drop.slots (AA G)) (F0 m 39 ls []) := by
        intro M v2 H locs ls hP hS hl h
        unfold fX4_drop_39 at h
        refine lv_iload_n C.1 C.2.1 dX4_drop_39 rfl (lv_at hl 1 rfl) ?_
        refine lv_aload_n C.1 C.2.1 dX4_drop_40 rfl (lv_at hl 0 rfl) ?_
        refine r_tF C hK hP hT cl_4 (k := 4) (by decide) wd_148 rfl dX4_drop_41 h (fun b6 h => ?_)
        refine lv_iload_n C.1 C.2.1 dX4_drop_44 rfl (lv_at hl 2 rfl) ?_
        refine r_aI C hK hP dX4_drop_45 h (fun x7 h => ?_)
        obtain ⟨r8, hc, h⟩ := bS h
        refine r_SN1 C hK hX hb hP hS hl.1 (kX6_isIn hc) (hX.nws wd_802) mo_X6_isIn wd_803 ⟨Nat.le_of_ble_eq_true rfl, Nat.le_of_ble_eq_true rfl⟩ ⟨Nat.le_of_ble_eq_true rfl, Nat.le_of_ble_eq_true rfl⟩ rfl (rest := []) rfl (Nat.le_of_ble_eq_true rfl) dX4_drop_46 (fun H locs hP hS => ?_)
        refine b_eq (tgt := 59) C dX4_drop_49 (by decide) h (fun h => ?_) (fun h => ?_)
        · exact J59 (M) (v2) _ _ _ hP hS (lv_sub hl [0, 1, 2] rfl) h
        · refine lv_aload_n C.1 C.2.1 dX4_drop_52 rfl (lv_at hl 0 rfl) ?_
          refine r_tF C hK hP hT cl_4 (k := 4) (by decide) wd_148 rfl dX4_drop_53 h (fun b9 h => ?_)
          refine lv_iload_n C.1 C.2.1 dX4_drop_56 rfl (lv_at hl 2 rfl) ?_
          refine lv_iconst (v := (-1)) C.1 C.2.1 dX4_drop_57 (by decide) ?_
          refine r_sI C hK hP hS dX4_drop_58 h (fun M10 H locs h hP hS => ?_)
          exact J59 (M10) (v2) _ _ _ hP hS (lv_sub hl [0, 1, 2] rfl) h
      have J33 : ∀ (M : Mm) (v2 : Int32) (H : Heap) (locs : List Loc) (ls : Array Slot), HM G Sh M H → SS G s s.heap.size H locs → lv_has ls 3 [(0, .ref a0), (1, .int a1), (2, .int v2)] → fX4_drop_33 n Sh a0 a1 M v2 = some z1 → W p l e rmX4_drop s m args below meth c H locs 0 0 (MQ below (QG G Sh r none) args s rmX4_drop.cells rmX4_drop.slots (AA G)) (F0 m 33 ls []) := by
        intro M v2 H locs ls hP hS hl h
        unfold fX4_drop_33 at h
        refine lv_aload_n C.1 C.2.1 dX4_drop_33 rfl (lv_at hl 0 rfl) ?_
        refine lv_iload_n C.1 C.2.1 dX4_drop_34 rfl (lv_at hl 2 rfl) ?_
        refine lv_iconst (v := (-1)) C.1 C.2.1 dX4_drop_35 (by decide) ?_
        obtain ⟨r11, hc, h⟩ := bS h
        refine r_V0 C hK hX hb hP hS hl.1 (kX4_begin (hT) hc) hT cl_4 wd_136 mo_X4_begin wd_137 wd_138 ⟨Nat.le_of_ble_eq_true rfl, Nat.le_of_ble_eq_true rfl⟩ ⟨Nat.le_of_ble_eq_true rfl, Nat.le_of_ble_eq_true rfl⟩ rfl (rest := []) rfl (Nat.le_of_ble_eq_true rfl) dX4_drop_36 (fun H locs hP hS => ?_)
        exact J39 (r11) (v2) _ _ _ hP hS (lv_sub hl [0, 1, 2] rfl) h
      unfold fX4_drop_2b at h
      refine lv_iload_n C.1 C.2.1 dX4_drop_2 rfl (lv_at hl 2 rfl) ?_
      refine lv_bipush (v := 24) C.1 C.2.1 dX4_drop_3 (by decide) ?_
      refine b_ige (tgt := 85) C dX4_drop_5 (by decide) h (fun h => ?_) (fun h => ?_)
      · refine lv_iload_n C.1 C.2.1 dX4_drop_8 rfl (lv_at hl 1 rfl) ?_
        refine lv_iload_n C.1 C.2.1 dX4_drop_9 rfl (lv_at hl 2 rfl) ?_
        obtain ⟨r12, hc, h⟩ := bS h
        refine r_SN1 C hK hX hb hP hS hl.1 (kX6_isIn hc) (hX.nws wd_802) mo_X6_isIn wd_803 ⟨Nat.le_of_ble_eq_true rfl, Nat.le_of_ble_eq_true rfl⟩ ⟨Nat.le_of_ble_eq_true rfl, Nat.le_of_ble_eq_true rfl⟩ rfl (rest := []) rfl (Nat.le_of_ble_eq_true rfl) dX4_drop_10 (fun H locs hP hS => ?_)
        refine b_eq (tgt := 39) C dX4_drop_13 (by decide) h (fun h => ?_) (fun h => ?_)
        · exact J39 (M) (v2) _ _ _ hP hS (lv_sub hl [0, 1, 2] rfl) h
        · refine lv_iload_n C.1 C.2.1 dX4_drop_16 rfl (lv_at hl 1 rfl) ?_
          refine lv_aload_n C.1 C.2.1 dX4_drop_17 rfl (lv_at hl 0 rfl) ?_
          refine lv_iload_n C.1 C.2.1 dX4_drop_18 rfl (lv_at hl 2 rfl) ?_
          obtain ⟨r13, hc, h⟩ := bS h
          refine r_V1 C hK hX hb hP hS hl.1 (kX4_parentOf (hT) hc) hT cl_4 wd_305 mo_X4_parentOf wd_306 wd_307 ⟨Nat.le_of_ble_eq_true rfl, Nat.le_of_ble_eq_true rfl⟩ ⟨Nat.le_of_ble_eq_true rfl, Nat.le_of_ble_eq_true rfl⟩ rfl (rest := [.int a1]) rfl (Nat.le_of_ble_eq_true rfl) dX4_drop_19 (fun H locs hP hS => ?_)
          obtain ⟨r14, hc, h⟩ := bS h
          refine r_SN1 C hK hX hb hP hS hl.1 (kX6_isIn hc) (hX.nws wd_802) mo_X6_isIn wd_803 ⟨Nat.le_of_ble_eq_true rfl, Nat.le_of_ble_eq_true rfl⟩ ⟨Nat.le_of_ble_eq_true rfl, Nat.le_of_ble_eq_true rfl⟩ rfl (rest := []) rfl (Nat.le_of_ble_eq_true rfl) dX4_drop_22 (fun H locs hP hS => ?_)
          refine b_ne (tgt := 33) C dX4_drop_25 (by decide) h (fun h => ?_) (fun h => ?_)
          · refine lv_aload_n C.1 C.2.1 dX4_drop_28 rfl (lv_at hl 0 rfl) ?_
            refine lv_iload_n C.1 C.2.1 dX4_drop_29 rfl (lv_at hl 2 rfl) ?_
            obtain ⟨r15, hc, h⟩ := bS h
            refine r_V0 C hK hX hb hP hS hl.1 (kX4_detach (hT) hc) hT cl_4 wd_805 mo_X4_detach wd_806 wd_807 ⟨Nat.le_of_ble_eq_true rfl, Nat.le_of_ble_eq_true rfl⟩ ⟨Nat.le_of_ble_eq_true rfl, Nat.le_of_ble_eq_true rfl⟩ rfl (rest := []) rfl (Nat.le_of_ble_eq_true rfl) dX4_drop_30 (fun H locs hP hS => ?_)
            exact J33 (r15) (v2) _ _ _ hP hS (lv_sub hl [0, 1, 2] rfl) h
          · exact J33 (M) (v2) _ _ _ hP hS (lv_sub hl [0, 1, 2] rfl) h
      · have e := Option.some.inj h
        rw [← e] at hz1
        replace e := itK_inr hz1
        exact q_v C hlk hP hS hr rfl e.symm dX4_drop_85
  unfold fX4_drop at h
  refine lv_iconst (v := 0) C.1 C.2.1 dX4_drop_0 (by decide) ?_
  refine lv_istore_n (lv' := [(2, .int 0), (0, .ref a0), (1, .int a1)]) C.1 C.2.1 dX4_drop_1 rfl hl (by decide) rfl (fun ls hl => ?_)
  exact J2  n (0) M _ _ _ hP hS (lv_sub hl [1, 2, 0] rfl) h
theorem dX4_setting_0 : decode cX4_setting 0 = .ok (.iload_n 1, 1) := by decide +kernel
theorem dX4_setting_1 : decode cX4_setting 1 = .ok (.ifCond .lt 18, 3) := by decide +kernel
theorem dX4_setting_4 : decode cX4_setting 4 = .ok (.iload_n 1, 1) := by decide +kernel
theorem dX4_setting_5 : decode cX4_setting 5 = .ok (.bipush 24, 2) := by decide +kernel
theorem dX4_setting_7 : decode cX4_setting 7 = .ok (.if_icmp .ge 12, 3) := by decide +kernel
theorem dX4_setting_10 : decode cX4_setting 10 = .ok (.iload_n 2, 1) := by decide +kernel
theorem dX4_setting_11 : decode cX4_setting 11 = .ok (.ifCond .lt 8, 3) := by decide +kernel
theorem dX4_setting_14 : decode cX4_setting 14 = .ok (.iload_n 2, 1) := by decide +kernel
theorem dX4_setting_15 : decode cX4_setting 15 = .ok (.iconst 5, 1) := by decide +kernel
theorem dX4_setting_16 : decode cX4_setting 16 = .ok (.if_icmp .lt 5, 3) := by decide +kernel
theorem dX4_setting_19 : decode cX4_setting 19 = .ok (.iconst 0, 1) := by decide +kernel
theorem dX4_setting_20 : decode cX4_setting 20 = .ok (.ireturn, 1) := by decide +kernel
theorem dX4_setting_21 : decode cX4_setting 21 = .ok (.aload_n 0, 1) := by decide +kernel
theorem dX4_setting_22 : decode cX4_setting 22 = .ok (.getfield 27, 3) := by decide +kernel
theorem dX4_setting_25 : decode cX4_setting 25 = .ok (.iload_n 1, 1) := by decide +kernel
theorem dX4_setting_26 : decode cX4_setting 26 = .ok (.iconst 5, 1) := by decide +kernel
theorem dX4_setting_27 : decode cX4_setting 27 = .ok (.imul, 1) := by decide +kernel
theorem dX4_setting_28 : decode cX4_setting 28 = .ok (.iload_n 2, 1) := by decide +kernel
theorem dX4_setting_29 : decode cX4_setting 29 = .ok (.iadd, 1) := by decide +kernel
theorem dX4_setting_30 : decode cX4_setting 30 = .ok (.iaload, 1) := by decide +kernel
theorem dX4_setting_31 : decode cX4_setting 31 = .ok (.ireturn, 1) := by decide +kernel
abbrev rmX4_setting : Room := { frames := 1, cells := 0, slots := 0, locals := 40 }
noncomputable def fX4_setting (n : Nat) (Sh : Sp) (M : Mm) (a0 : Nat) (a1 : Int32) (a2 : Int32) : Option Int32 :=
  if a1 < 0 then
    some 0
  else
    if a1 < 24 then
      if a2 < 0 then
        some 0
      else
        if a2 < 5 then
          tF M a0 5 fun b1 =>
          aI Sh M b1 0 ((a1 * 5) + a2) fun x2 =>
          some x2
        else
          some 0
    else
      some 0
set_option maxRecDepth 100000 in
set_option maxHeartbeats 4000000 in
theorem kX4_setting {l : Launch} {G : Gt} {n : Nat} {Sh : Sp} {M : Mm} {a0 : Nat} {a1 : Int32} {a2 : Int32} (hT : Sh a0 = some (.inl 4)) {r : Int32} (h : fX4_setting n Sh M a0 a1 a2 = some r) : Ct l yX4_setting cX4_setting 3 (some .int) rmX4_setting G Sh M [.ref a0, .int a1, .int a2] (some (.int r)) M := by
  refine Ct.of (by decide) (Nat.le_of_ble_eq_true rfl) ?_
  intro p e s m args below meth c ls C hK hX hP hS hb hlk hr hl
  replace hl : lv_has ls 3 [(0, .ref a0), (1, .int a1), (2, .int a2)] := hl
  unfold fX4_setting at h
  refine lv_iload_n C.1 C.2.1 dX4_setting_0 rfl (lv_at hl 1 rfl) ?_
  refine b_lt (tgt := 19) C dX4_setting_1 (by decide) h (fun h => ?_) (fun h => ?_)
  · refine lv_iconst (v := 0) C.1 C.2.1 dX4_setting_19 (by decide) ?_
    have e := Option.some.inj h
    exact q_i C hlk hP hS hr (by rw [← e]) rfl dX4_setting_20
  · refine lv_iload_n C.1 C.2.1 dX4_setting_4 rfl (lv_at hl 1 rfl) ?_
    refine lv_bipush (v := 24) C.1 C.2.1 dX4_setting_5 (by decide) ?_
    refine b_ige (tgt := 19) C dX4_setting_7 (by decide) h (fun h => ?_) (fun h => ?_)
    · refine lv_iload_n C.1 C.2.1 dX4_setting_10 rfl (lv_at hl 2 rfl) ?_
      refine b_lt (tgt := 19) C dX4_setting_11 (by decide) h (fun h => ?_) (fun h => ?_)
      · refine lv_iconst (v := 0) C.1 C.2.1 dX4_setting_19 (by decide) ?_
        have e := Option.some.inj h
        exact q_i C hlk hP hS hr (by rw [← e]) rfl dX4_setting_20
      · refine lv_iload_n C.1 C.2.1 dX4_setting_14 rfl (lv_at hl 2 rfl) ?_
        refine lv_iconst (v := 5) C.1 C.2.1 dX4_setting_15 (by decide) ?_
        refine b_ilt (tgt := 21) C dX4_setting_16 (by decide) h (fun h => ?_) (fun h => ?_)
        · refine lv_aload_n C.1 C.2.1 dX4_setting_21 rfl (lv_at hl 0 rfl) ?_
          refine r_tF C hK hP hT cl_4 (k := 5) (by decide) wd_149 rfl dX4_setting_22 h (fun b1 h => ?_)
          refine lv_iload_n C.1 C.2.1 dX4_setting_25 rfl (lv_at hl 1 rfl) ?_
          refine lv_iconst (v := 5) C.1 C.2.1 dX4_setting_26 (by decide) ?_
          refine lv_imul C.1 C.2.1 dX4_setting_27 ?_
          refine lv_iload_n C.1 C.2.1 dX4_setting_28 rfl (lv_at hl 2 rfl) ?_
          refine lv_iadd C.1 C.2.1 dX4_setting_29 ?_
          refine r_aI C hK hP dX4_setting_30 h (fun x2 h => ?_)
          have e := Option.some.inj h
          exact q_i C hlk hP hS hr (by rw [← e]) rfl dX4_setting_31
        · refine lv_iconst (v := 0) C.1 C.2.1 dX4_setting_19 (by decide) ?_
          have e := Option.some.inj h
          exact q_i C hlk hP hS hr (by rw [← e]) rfl dX4_setting_20
    · refine lv_iconst (v := 0) C.1 C.2.1 dX4_setting_19 (by decide) ?_
      have e := Option.some.inj h
      exact q_i C hlk hP hS hr (by rw [← e]) rfl dX4_setting_20
theorem dX4_give_0 : decode cX4_give 0 = .ok (.aload_n 0, 1) := by decide +kernel
theorem dX4_give_1 : decode cX4_give 1 = .ok (.iload_n 1, 1) := by decide +kernel
theorem dX4_give_2 : decode cX4_give 2 = .ok (.invokevirtual 73, 3) := by decide +kernel
theorem dX4_give_5 : decode cX4_give 5 = .ok (.ifCond .eq 23, 3) := by decide +kernel
theorem dX4_give_8 : decode cX4_give 8 = .ok (.iload_n 2, 1) := by decide +kernel
theorem dX4_give_9 : decode cX4_give 9 = .ok (.ifCond .lt 19, 3) := by decide +kernel
theorem dX4_give_12 : decode cX4_give 12 = .ok (.iload_n 2, 1) := by decide +kernel
theorem dX4_give_13 : decode cX4_give 13 = .ok (.iconst 5, 1) := by decide +kernel
theorem dX4_give_14 : decode cX4_give 14 = .ok (.if_icmp .ge 14, 3) := by decide +kernel
theorem dX4_give_17 : decode cX4_give 17 = .ok (.aload_n 0, 1) := by decide +kernel
theorem dX4_give_18 : decode cX4_give 18 = .ok (.getfield 27, 3) := by decide +kernel
theorem dX4_give_21 : decode cX4_give 21 = .ok (.iload_n 1, 1) := by decide +kernel
theorem dX4_give_22 : decode cX4_give 22 = .ok (.iconst 5, 1) := by decide +kernel
theorem dX4_give_23 : decode cX4_give 23 = .ok (.imul, 1) := by decide +kernel
theorem dX4_give_24 : decode cX4_give 24 = .ok (.iload_n 2, 1) := by decide +kernel
theorem dX4_give_25 : decode cX4_give 25 = .ok (.iadd, 1) := by decide +kernel
theorem dX4_give_26 : decode cX4_give 26 = .ok (.iload_n 3, 1) := by decide +kernel
theorem dX4_give_27 : decode cX4_give 27 = .ok (.iastore, 1) := by decide +kernel
theorem dX4_give_28 : decode cX4_give 28 = .ok (.return_, 1) := by decide +kernel
abbrev rmX4_give : Room := { frames := 2, cells := 0, slots := 0, locals := 61 }
noncomputable def fX4_give (n : Nat) (Sh : Sp) (M : Mm) (a0 : Nat) (a1 : Int32) (a2 : Int32) (a3 : Int32) : Option Mm :=
  (fX4_has n Sh M a0 a1).bind fun r1 =>
  if r1 = 0 then
    some M
  else
    if a2 < 0 then
      some M
    else
      if a2 < 5 then
        tF M a0 5 fun b2 =>
        sI Sh M b2 ((a1 * 5) + a2) a3 fun M3 =>
        some M3
      else
        some M
set_option maxRecDepth 100000 in
set_option maxHeartbeats 4000000 in
theorem kX4_give {l : Launch} {G : Gt} {n : Nat} {Sh : Sp} {M : Mm} {a0 : Nat} {a1 : Int32} {a2 : Int32} {a3 : Int32} (hT : Sh a0 = some (.inl 4)) {r : Mm} (h : fX4_give n Sh M a0 a1 a2 a3 = some r) : Ct l yX4_give cX4_give 4 none rmX4_give G Sh M [.ref a0, .int a1, .int a2, .int a3] none r := by
  refine Ct.of (by decide) (Nat.le_of_ble_eq_true rfl) ?_
  intro p e s m args below meth c ls C hK hX hP hS hb hlk hr hl
  replace hl : lv_has ls 4 [(0, .ref a0), (1, .int a1), (2, .int a2), (3, .int a3)] := hl
  unfold fX4_give at h
  refine lv_aload_n C.1 C.2.1 dX4_give_0 rfl (lv_at hl 0 rfl) ?_
  refine lv_iload_n C.1 C.2.1 dX4_give_1 rfl (lv_at hl 1 rfl) ?_
  obtain ⟨r1, hc, h⟩ := bS h
  refine r_V1 C hK hX hb hP hS hl.1 (kX4_has (hT) hc) hT cl_4 wd_297 mo_X4_has wd_298 wd_299 ⟨Nat.le_of_ble_eq_true rfl, Nat.le_of_ble_eq_true rfl⟩ ⟨Nat.le_of_ble_eq_true rfl, Nat.le_of_ble_eq_true rfl⟩ rfl (rest := []) rfl (Nat.le_of_ble_eq_true rfl) dX4_give_2 (fun H locs hP hS => ?_)
  refine b_eq (tgt := 28) C dX4_give_5 (by decide) h (fun h => ?_) (fun h => ?_)
  · have e := Option.some.inj h
    exact q_v C hlk hP hS hr rfl e.symm dX4_give_28
  · refine lv_iload_n C.1 C.2.1 dX4_give_8 rfl (lv_at hl 2 rfl) ?_
    refine b_lt (tgt := 28) C dX4_give_9 (by decide) h (fun h => ?_) (fun h => ?_)
    · have e := Option.some.inj h
      exact q_v C hlk hP hS hr rfl e.symm dX4_give_28
    · refine lv_iload_n C.1 C.2.1 dX4_give_12 rfl (lv_at hl 2 rfl) ?_
      refine lv_iconst (v := 5) C.1 C.2.1 dX4_give_13 (by decide) ?_
      refine b_ige (tgt := 28) C dX4_give_14 (by decide) h (fun h => ?_) (fun h => ?_)
      · refine lv_aload_n C.1 C.2.1 dX4_give_17 rfl (lv_at hl 0 rfl) ?_
        refine r_tF C hK hP hT cl_4 (k := 5) (by decide) wd_149 rfl dX4_give_18 h (fun b2 h => ?_)
        refine lv_iload_n C.1 C.2.1 dX4_give_21 rfl (lv_at hl 1 rfl) ?_
        refine lv_iconst (v := 5) C.1 C.2.1 dX4_give_22 (by decide) ?_
        refine lv_imul C.1 C.2.1 dX4_give_23 ?_
        refine lv_iload_n C.1 C.2.1 dX4_give_24 rfl (lv_at hl 2 rfl) ?_
        refine lv_iadd C.1 C.2.1 dX4_give_25 ?_
        refine lv_iload_n C.1 C.2.1 dX4_give_26 rfl (lv_at hl 3 rfl) ?_
        refine r_sI C hK hP hS dX4_give_27 h (fun M3 H locs h hP hS => ?_)
        have e := Option.some.inj h
        exact q_v C hlk hP hS hr rfl e.symm dX4_give_28
      · have e := Option.some.inj h
        exact q_v C hlk hP hS hr rfl e.symm dX4_give_28
theorem dX4_textOf_0 : decode cX4_textOf 0 = .ok (.iload_n 1, 1) := by decide +kernel
theorem dX4_textOf_1 : decode cX4_textOf 1 = .ok (.ifCond .lt 18, 3) := by decide +kernel
theorem dX4_textOf_4 : decode cX4_textOf 4 = .ok (.iload_n 1, 1) := by decide +kernel
theorem dX4_textOf_5 : decode cX4_textOf 5 = .ok (.bipush 24, 2) := by decide +kernel
theorem dX4_textOf_7 : decode cX4_textOf 7 = .ok (.if_icmp .ge 12, 3) := by decide +kernel
theorem dX4_textOf_10 : decode cX4_textOf 10 = .ok (.aload_n 0, 1) := by decide +kernel
theorem dX4_textOf_11 : decode cX4_textOf 11 = .ok (.getfield 32, 3) := by decide +kernel
theorem dX4_textOf_14 : decode cX4_textOf 14 = .ok (.iload_n 1, 1) := by decide +kernel
theorem dX4_textOf_15 : decode cX4_textOf 15 = .ok (.aaload, 1) := by decide +kernel
theorem dX4_textOf_16 : decode cX4_textOf 16 = .ok (.goto 7, 3) := by decide +kernel
theorem dX4_textOf_19 : decode cX4_textOf 19 = .ok (.aload_n 0, 1) := by decide +kernel
theorem dX4_textOf_20 : decode cX4_textOf 20 = .ok (.getfield 52, 3) := by decide +kernel
theorem dX4_textOf_23 : decode cX4_textOf 23 = .ok (.areturn, 1) := by decide +kernel
abbrev rmX4_textOf : Room := { frames := 1, cells := 0, slots := 0, locals := 40 }
noncomputable def fX4_textOf_19 (n : Nat) (Sh : Sp) (M : Mm) (a0 : Nat) (a1 : Int32) : Option Nat :=
  tF M a0 11 fun b1 =>
  some b1
noncomputable def fX4_textOf (n : Nat) (Sh : Sp) (M : Mm) (a0 : Nat) (a1 : Int32) : Option Nat :=
  if a1 < 0 then
    fX4_textOf_19 n Sh M a0 a1
  else
    if a1 < 24 then
      tF M a0 6 fun b2 =>
      aR Sh M b2 4 a1 fun b3 =>
      some b3
    else
      fX4_textOf_19 n Sh M a0 a1
set_option maxRecDepth 100000 in
set_option maxHeartbeats 4000000 in
theorem kX4_textOf {l : Launch} {G : Gt} {n : Nat} {Sh : Sp} {M : Mm} {a0 : Nat} {a1 : Int32} (hT : Sh a0 = some (.inl 4)) {r : Nat} (h : fX4_textOf n Sh M a0 a1 = some r) : Ct l yX4_textOf cX4_textOf 2 (some (.object "SpokenTree$Words")) rmX4_textOf G Sh M [.ref a0, .int a1] (some (.ref r)) M := by
  refine Ct.of (by decide) (Nat.le_of_ble_eq_true rfl) ?_
  intro p e s m args below meth c ls C hK hX hP hS hb hlk hr hl
  replace hl : lv_has ls 2 [(0, .ref a0), (1, .int a1)] := hl
  have J19 : ∀ (H : Heap) (locs : List Loc) (ls : Array Slot), HM G Sh M H → SS G s s.heap.size H locs → lv_has ls 2 [(0, .ref a0), (1, .int a1)] → fX4_textOf_19 n Sh M a0 a1 = some r → W p l e rmX4_textOf s m args below meth c H locs 0 0 (MQ below (QG G Sh M (some (.ref r))) args s rmX4_textOf.cells rmX4_textOf.slots (AA G)) (F0 m 19 ls []) := by
    intro  H locs ls hP hS hl h
    unfold fX4_textOf_19 at h
    refine lv_aload_n C.1 C.2.1 dX4_textOf_19 rfl (lv_at hl 0 rfl) ?_
    refine r_tF C hK hP hT cl_4 (k := 11) (by decide) wd_155 rfl dX4_textOf_20 h (fun b1 h => ?_)
    have e := Option.some.inj h
    exact q_a C hlk hP hS hr (by rw [← e]) rfl dX4_textOf_23
  unfold fX4_textOf at h
  refine lv_iload_n C.1 C.2.1 dX4_textOf_0 rfl (lv_at hl 1 rfl) ?_
  refine b_lt (tgt := 19) C dX4_textOf_1 (by decide) h (fun h => ?_) (fun h => ?_)
  · exact J19  _ _ _ hP hS (lv_sub hl [0, 1] rfl) h
  · refine lv_iload_n C.1 C.2.1 dX4_textOf_4 rfl (lv_at hl 1 rfl) ?_
    refine lv_bipush (v := 24) C.1 C.2.1 dX4_textOf_5 (by decide) ?_
    refine b_ige (tgt := 19) C dX4_textOf_7 (by decide) h (fun h => ?_) (fun h => ?_)
    · refine lv_aload_n C.1 C.2.1 dX4_textOf_10 rfl (lv_at hl 0 rfl) ?_
      refine r_tF C hK hP hT cl_4 (k := 6) (by decide) wd_150 rfl dX4_textOf_11 h (fun b2 h => ?_)
      refine lv_iload_n C.1 C.2.1 dX4_textOf_14 rfl (lv_at hl 1 rfl) ?_
      refine r_aR4 C hK hP dX4_textOf_15 h (fun b3 h => ?_)
      refine lv_goto (tgt := 23) C.1 C.2.1 dX4_textOf_16 (by decide) ?_
      have e := Option.some.inj h
      exact q_a C hlk hP hS hr (by rw [← e]) rfl dX4_textOf_23
    · exact J19  _ _ _ hP hS (lv_sub hl [0, 1] rfl) h
theorem dX4_labelOf_0 : decode cX4_labelOf 0 = .ok (.iload_n 1, 1) := by decide +kernel
theorem dX4_labelOf_1 : decode cX4_labelOf 1 = .ok (.ifCond .lt 18, 3) := by decide +kernel
theorem dX4_labelOf_4 : decode cX4_labelOf 4 = .ok (.iload_n 1, 1) := by decide +kernel
theorem dX4_labelOf_5 : decode cX4_labelOf 5 = .ok (.bipush 24, 2) := by decide +kernel
theorem dX4_labelOf_7 : decode cX4_labelOf 7 = .ok (.if_icmp .ge 12, 3) := by decide +kernel
theorem dX4_labelOf_10 : decode cX4_labelOf 10 = .ok (.aload_n 0, 1) := by decide +kernel
theorem dX4_labelOf_11 : decode cX4_labelOf 11 = .ok (.getfield 36, 3) := by decide +kernel
theorem dX4_labelOf_14 : decode cX4_labelOf 14 = .ok (.iload_n 1, 1) := by decide +kernel
theorem dX4_labelOf_15 : decode cX4_labelOf 15 = .ok (.aaload, 1) := by decide +kernel
theorem dX4_labelOf_16 : decode cX4_labelOf 16 = .ok (.goto 7, 3) := by decide +kernel
theorem dX4_labelOf_19 : decode cX4_labelOf 19 = .ok (.aload_n 0, 1) := by decide +kernel
theorem dX4_labelOf_20 : decode cX4_labelOf 20 = .ok (.getfield 52, 3) := by decide +kernel
theorem dX4_labelOf_23 : decode cX4_labelOf 23 = .ok (.areturn, 1) := by decide +kernel
abbrev rmX4_labelOf : Room := { frames := 1, cells := 0, slots := 0, locals := 40 }
noncomputable def fX4_labelOf_19 (n : Nat) (Sh : Sp) (M : Mm) (a0 : Nat) (a1 : Int32) : Option Nat :=
  tF M a0 11 fun b1 =>
  some b1
noncomputable def fX4_labelOf (n : Nat) (Sh : Sp) (M : Mm) (a0 : Nat) (a1 : Int32) : Option Nat :=
  if a1 < 0 then
    fX4_labelOf_19 n Sh M a0 a1
  else
    if a1 < 24 then
      tF M a0 7 fun b2 =>
      aR Sh M b2 4 a1 fun b3 =>
      some b3
    else
      fX4_labelOf_19 n Sh M a0 a1
set_option maxRecDepth 100000 in
set_option maxHeartbeats 4000000 in
theorem kX4_labelOf {l : Launch} {G : Gt} {n : Nat} {Sh : Sp} {M : Mm} {a0 : Nat} {a1 : Int32} (hT : Sh a0 = some (.inl 4)) {r : Nat} (h : fX4_labelOf n Sh M a0 a1 = some r) : Ct l yX4_labelOf cX4_labelOf 2 (some (.object "SpokenTree$Words")) rmX4_labelOf G Sh M [.ref a0, .int a1] (some (.ref r)) M := by
  refine Ct.of (by decide) (Nat.le_of_ble_eq_true rfl) ?_
  intro p e s m args below meth c ls C hK hX hP hS hb hlk hr hl
  replace hl : lv_has ls 2 [(0, .ref a0), (1, .int a1)] := hl
  have J19 : ∀ (H : Heap) (locs : List Loc) (ls : Array Slot), HM G Sh M H → SS G s s.heap.size H locs → lv_has ls 2 [(0, .ref a0), (1, .int a1)] → fX4_labelOf_19 n Sh M a0 a1 = some r → W p l e rmX4_labelOf s m args below meth c H locs 0 0 (MQ below (QG G Sh M (some (.ref r))) args s rmX4_labelOf.cells rmX4_labelOf.slots (AA G)) (F0 m 19 ls []) := by
    intro  H locs ls hP hS hl h
    unfold fX4_labelOf_19 at h
    refine lv_aload_n C.1 C.2.1 dX4_labelOf_19 rfl (lv_at hl 0 rfl) ?_
    refine r_tF C hK hP hT cl_4 (k := 11) (by decide) wd_155 rfl dX4_labelOf_20 h (fun b1 h => ?_)
    have e := Option.some.inj h
    exact q_a C hlk hP hS hr (by rw [← e]) rfl dX4_labelOf_23
  unfold fX4_labelOf at h
  refine lv_iload_n C.1 C.2.1 dX4_labelOf_0 rfl (lv_at hl 1 rfl) ?_
  refine b_lt (tgt := 19) C dX4_labelOf_1 (by decide) h (fun h => ?_) (fun h => ?_)
  · exact J19  _ _ _ hP hS (lv_sub hl [0, 1] rfl) h
  · refine lv_iload_n C.1 C.2.1 dX4_labelOf_4 rfl (lv_at hl 1 rfl) ?_
    refine lv_bipush (v := 24) C.1 C.2.1 dX4_labelOf_5 (by decide) ?_
    refine b_ige (tgt := 19) C dX4_labelOf_7 (by decide) h (fun h => ?_) (fun h => ?_)
    · refine lv_aload_n C.1 C.2.1 dX4_labelOf_10 rfl (lv_at hl 0 rfl) ?_
      refine r_tF C hK hP hT cl_4 (k := 7) (by decide) wd_151 rfl dX4_labelOf_11 h (fun b2 h => ?_)
      refine lv_iload_n C.1 C.2.1 dX4_labelOf_14 rfl (lv_at hl 1 rfl) ?_
      refine r_aR4 C hK hP dX4_labelOf_15 h (fun b3 h => ?_)
      refine lv_goto (tgt := 23) C.1 C.2.1 dX4_labelOf_16 (by decide) ?_
      have e := Option.some.inj h
      exact q_a C hlk hP hS hr (by rw [← e]) rfl dX4_labelOf_23
    · exact J19  _ _ _ hP hS (lv_sub hl [0, 1] rfl) h
theorem dX4_labellerOf_0 : decode cX4_labellerOf 0 = .ok (.iload_n 1, 1) := by decide +kernel
theorem dX4_labellerOf_1 : decode cX4_labellerOf 1 = .ok (.ifCond .lt 18, 3) := by decide +kernel
theorem dX4_labellerOf_4 : decode cX4_labellerOf 4 = .ok (.iload_n 1, 1) := by decide +kernel
theorem dX4_labellerOf_5 : decode cX4_labellerOf 5 = .ok (.bipush 24, 2) := by decide +kernel
theorem dX4_labellerOf_7 : decode cX4_labellerOf 7 = .ok (.if_icmp .ge 12, 3) := by decide +kernel
theorem dX4_labellerOf_10 : decode cX4_labellerOf 10 = .ok (.aload_n 0, 1) := by decide +kernel
theorem dX4_labellerOf_11 : decode cX4_labellerOf 11 = .ok (.getfield 24, 3) := by decide +kernel
theorem dX4_labellerOf_14 : decode cX4_labellerOf 14 = .ok (.iload_n 1, 1) := by decide +kernel
theorem dX4_labellerOf_15 : decode cX4_labellerOf 15 = .ok (.iaload, 1) := by decide +kernel
theorem dX4_labellerOf_16 : decode cX4_labellerOf 16 = .ok (.goto 4, 3) := by decide +kernel
theorem dX4_labellerOf_19 : decode cX4_labellerOf 19 = .ok (.iconst (-1), 1) := by decide +kernel
theorem dX4_labellerOf_20 : decode cX4_labellerOf 20 = .ok (.ireturn, 1) := by decide +kernel
abbrev rmX4_labellerOf : Room := { frames := 1, cells := 0, slots := 0, locals := 40 }
noncomputable def fX4_labellerOf (n : Nat) (Sh : Sp) (M : Mm) (a0 : Nat) (a1 : Int32) : Option Int32 :=
  if a1 < 0 then
    some (-1)
  else
    if a1 < 24 then
      tF M a0 4 fun b1 =>
      aI Sh M b1 0 a1 fun x2 =>
      some x2
    else
      some (-1)
set_option maxRecDepth 100000 in
set_option maxHeartbeats 4000000 in
theorem kX4_labellerOf {l : Launch} {G : Gt} {n : Nat} {Sh : Sp} {M : Mm} {a0 : Nat} {a1 : Int32} (hT : Sh a0 = some (.inl 4)) {r : Int32} (h : fX4_labellerOf n Sh M a0 a1 = some r) : Ct l yX4_labellerOf cX4_labellerOf 2 (some .int) rmX4_labellerOf G Sh M [.ref a0, .int a1] (some (.int r)) M := by
  refine Ct.of (by decide) (Nat.le_of_ble_eq_true rfl) ?_
  intro p e s m args below meth c ls C hK hX hP hS hb hlk hr hl
  replace hl : lv_has ls 2 [(0, .ref a0), (1, .int a1)] := hl
  unfold fX4_labellerOf at h
  refine lv_iload_n C.1 C.2.1 dX4_labellerOf_0 rfl (lv_at hl 1 rfl) ?_
  refine b_lt (tgt := 19) C dX4_labellerOf_1 (by decide) h (fun h => ?_) (fun h => ?_)
  · refine lv_iconst (v := (-1)) C.1 C.2.1 dX4_labellerOf_19 (by decide) ?_
    have e := Option.some.inj h
    exact q_i C hlk hP hS hr (by rw [← e]) rfl dX4_labellerOf_20
  · refine lv_iload_n C.1 C.2.1 dX4_labellerOf_4 rfl (lv_at hl 1 rfl) ?_
    refine lv_bipush (v := 24) C.1 C.2.1 dX4_labellerOf_5 (by decide) ?_
    refine b_ige (tgt := 19) C dX4_labellerOf_7 (by decide) h (fun h => ?_) (fun h => ?_)
    · refine lv_aload_n C.1 C.2.1 dX4_labellerOf_10 rfl (lv_at hl 0 rfl) ?_
      refine r_tF C hK hP hT cl_4 (k := 4) (by decide) wd_148 rfl dX4_labellerOf_11 h (fun b1 h => ?_)
      refine lv_iload_n C.1 C.2.1 dX4_labellerOf_14 rfl (lv_at hl 1 rfl) ?_
      refine r_aI C hK hP dX4_labellerOf_15 h (fun x2 h => ?_)
      refine lv_goto (tgt := 20) C.1 C.2.1 dX4_labellerOf_16 (by decide) ?_
      have e := Option.some.inj h
      exact q_i C hlk hP hS hr (by rw [← e]) rfl dX4_labellerOf_20
    · refine lv_iconst (v := (-1)) C.1 C.2.1 dX4_labellerOf_19 (by decide) ?_
      have e := Option.some.inj h
      exact q_i C hlk hP hS hr (by rw [← e]) rfl dX4_labellerOf_20
theorem dX4_labelBy_0 : decode cX4_labelBy 0 = .ok (.aload_n 0, 1) := by decide +kernel
theorem dX4_labelBy_1 : decode cX4_labelBy 1 = .ok (.iload_n 1, 1) := by decide +kernel
theorem dX4_labelBy_2 : decode cX4_labelBy 2 = .ok (.invokevirtual 73, 3) := by decide +kernel
theorem dX4_labelBy_5 : decode cX4_labelBy 5 = .ok (.ifCond .eq 10, 3) := by decide +kernel
theorem dX4_labelBy_8 : decode cX4_labelBy 8 = .ok (.aload_n 0, 1) := by decide +kernel
theorem dX4_labelBy_9 : decode cX4_labelBy 9 = .ok (.getfield 24, 3) := by decide +kernel
theorem dX4_labelBy_12 : decode cX4_labelBy 12 = .ok (.iload_n 1, 1) := by decide +kernel
theorem dX4_labelBy_13 : decode cX4_labelBy 13 = .ok (.iload_n 2, 1) := by decide +kernel
theorem dX4_labelBy_14 : decode cX4_labelBy 14 = .ok (.iastore, 1) := by decide +kernel
theorem dX4_labelBy_15 : decode cX4_labelBy 15 = .ok (.return_, 1) := by decide +kernel
abbrev rmX4_labelBy : Room := { frames := 2, cells := 0, slots := 0, locals := 61 }
noncomputable def fX4_labelBy (n : Nat) (Sh : Sp) (M : Mm) (a0 : Nat) (a1 : Int32) (a2 : Int32) : Option Mm :=
  (fX4_has n Sh M a0 a1).bind fun r1 =>
  if r1 = 0 then
    some M
  else
    tF M a0 4 fun b2 =>
    sI Sh M b2 a1 a2 fun M3 =>
    some M3
set_option maxRecDepth 100000 in
set_option maxHeartbeats 4000000 in
theorem kX4_labelBy {l : Launch} {G : Gt} {n : Nat} {Sh : Sp} {M : Mm} {a0 : Nat} {a1 : Int32} {a2 : Int32} (hT : Sh a0 = some (.inl 4)) {r : Mm} (h : fX4_labelBy n Sh M a0 a1 a2 = some r) : Ct l yX4_labelBy cX4_labelBy 3 none rmX4_labelBy G Sh M [.ref a0, .int a1, .int a2] none r := by
  refine Ct.of (by decide) (Nat.le_of_ble_eq_true rfl) ?_
  intro p e s m args below meth c ls C hK hX hP hS hb hlk hr hl
  replace hl : lv_has ls 3 [(0, .ref a0), (1, .int a1), (2, .int a2)] := hl
  unfold fX4_labelBy at h
  refine lv_aload_n C.1 C.2.1 dX4_labelBy_0 rfl (lv_at hl 0 rfl) ?_
  refine lv_iload_n C.1 C.2.1 dX4_labelBy_1 rfl (lv_at hl 1 rfl) ?_
  obtain ⟨r1, hc, h⟩ := bS h
  refine r_V1 C hK hX hb hP hS hl.1 (kX4_has (hT) hc) hT cl_4 wd_297 mo_X4_has wd_298 wd_299 ⟨Nat.le_of_ble_eq_true rfl, Nat.le_of_ble_eq_true rfl⟩ ⟨Nat.le_of_ble_eq_true rfl, Nat.le_of_ble_eq_true rfl⟩ rfl (rest := []) rfl (Nat.le_of_ble_eq_true rfl) dX4_labelBy_2 (fun H locs hP hS => ?_)
  refine b_eq (tgt := 15) C dX4_labelBy_5 (by decide) h (fun h => ?_) (fun h => ?_)
  · have e := Option.some.inj h
    exact q_v C hlk hP hS hr rfl e.symm dX4_labelBy_15
  · refine lv_aload_n C.1 C.2.1 dX4_labelBy_8 rfl (lv_at hl 0 rfl) ?_
    refine r_tF C hK hP hT cl_4 (k := 4) (by decide) wd_148 rfl dX4_labelBy_9 h (fun b2 h => ?_)
    refine lv_iload_n C.1 C.2.1 dX4_labelBy_12 rfl (lv_at hl 1 rfl) ?_
    refine lv_iload_n C.1 C.2.1 dX4_labelBy_13 rfl (lv_at hl 2 rfl) ?_
    refine r_sI C hK hP hS dX4_labelBy_14 h (fun M3 H locs h hP hS => ?_)
    have e := Option.some.inj h
    exact q_v C hlk hP hS hr rfl e.symm dX4_labelBy_15
theorem dX4_isOpen_0 : decode cX4_isOpen 0 = .ok (.iload_n 1, 1) := by decide +kernel
theorem dX4_isOpen_1 : decode cX4_isOpen 1 = .ok (.ifCond .lt 22, 3) := by decide +kernel
theorem dX4_isOpen_4 : decode cX4_isOpen 4 = .ok (.iload_n 1, 1) := by decide +kernel
theorem dX4_isOpen_5 : decode cX4_isOpen 5 = .ok (.bipush 24, 2) := by decide +kernel
theorem dX4_isOpen_7 : decode cX4_isOpen 7 = .ok (.if_icmp .ge 16, 3) := by decide +kernel
theorem dX4_isOpen_10 : decode cX4_isOpen 10 = .ok (.aload_n 0, 1) := by decide +kernel
theorem dX4_isOpen_11 : decode cX4_isOpen 11 = .ok (.getfield 39, 3) := by decide +kernel
theorem dX4_isOpen_14 : decode cX4_isOpen 14 = .ok (.iload_n 1, 1) := by decide +kernel
theorem dX4_isOpen_15 : decode cX4_isOpen 15 = .ok (.iaload, 1) := by decide +kernel
theorem dX4_isOpen_16 : decode cX4_isOpen 16 = .ok (.ifCond .eq 7, 3) := by decide +kernel
theorem dX4_isOpen_19 : decode cX4_isOpen 19 = .ok (.iconst 1, 1) := by decide +kernel
theorem dX4_isOpen_20 : decode cX4_isOpen 20 = .ok (.goto 4, 3) := by decide +kernel
theorem dX4_isOpen_23 : decode cX4_isOpen 23 = .ok (.iconst 0, 1) := by decide +kernel
theorem dX4_isOpen_24 : decode cX4_isOpen 24 = .ok (.ireturn, 1) := by decide +kernel
abbrev rmX4_isOpen : Room := { frames := 1, cells := 0, slots := 0, locals := 40 }
noncomputable def fX4_isOpen (n : Nat) (Sh : Sp) (M : Mm) (a0 : Nat) (a1 : Int32) : Option Int32 :=
  if a1 < 0 then
    some 0
  else
    if a1 < 24 then
      tF M a0 8 fun b1 =>
      aI Sh M b1 0 a1 fun x2 =>
      if x2 = 0 then
        some 0
      else
        some 1
    else
      some 0
set_option maxRecDepth 100000 in
set_option maxHeartbeats 4000000 in
theorem kX4_isOpen {l : Launch} {G : Gt} {n : Nat} {Sh : Sp} {M : Mm} {a0 : Nat} {a1 : Int32} (hT : Sh a0 = some (.inl 4)) {r : Int32} (h : fX4_isOpen n Sh M a0 a1 = some r) : Ct l yX4_isOpen cX4_isOpen 2 (some .boolean) rmX4_isOpen G Sh M [.ref a0, .int a1] (some (.int r)) M := by
  refine Ct.of (by decide) (Nat.le_of_ble_eq_true rfl) ?_
  intro p e s m args below meth c ls C hK hX hP hS hb hlk hr hl
  replace hl : lv_has ls 2 [(0, .ref a0), (1, .int a1)] := hl
  unfold fX4_isOpen at h
  refine lv_iload_n C.1 C.2.1 dX4_isOpen_0 rfl (lv_at hl 1 rfl) ?_
  refine b_lt (tgt := 23) C dX4_isOpen_1 (by decide) h (fun h => ?_) (fun h => ?_)
  · refine lv_iconst (v := 0) C.1 C.2.1 dX4_isOpen_23 (by decide) ?_
    have e := Option.some.inj h
    exact q_z C hlk hP hS hr (by decide) (by rw [← e]) rfl dX4_isOpen_24
  · refine lv_iload_n C.1 C.2.1 dX4_isOpen_4 rfl (lv_at hl 1 rfl) ?_
    refine lv_bipush (v := 24) C.1 C.2.1 dX4_isOpen_5 (by decide) ?_
    refine b_ige (tgt := 23) C dX4_isOpen_7 (by decide) h (fun h => ?_) (fun h => ?_)
    · refine lv_aload_n C.1 C.2.1 dX4_isOpen_10 rfl (lv_at hl 0 rfl) ?_
      refine r_tF C hK hP hT cl_4 (k := 8) (by decide) wd_152 rfl dX4_isOpen_11 h (fun b1 h => ?_)
      refine lv_iload_n C.1 C.2.1 dX4_isOpen_14 rfl (lv_at hl 1 rfl) ?_
      refine r_aI C hK hP dX4_isOpen_15 h (fun x2 h => ?_)
      refine b_eq (tgt := 23) C dX4_isOpen_16 (by decide) h (fun h => ?_) (fun h => ?_)
      · refine lv_iconst (v := 0) C.1 C.2.1 dX4_isOpen_23 (by decide) ?_
        have e := Option.some.inj h
        exact q_z C hlk hP hS hr (by decide) (by rw [← e]) rfl dX4_isOpen_24
      · refine lv_iconst (v := 1) C.1 C.2.1 dX4_isOpen_19 (by decide) ?_
        refine lv_goto (tgt := 24) C.1 C.2.1 dX4_isOpen_20 (by decide) ?_
        have e := Option.some.inj h
        exact q_z C hlk hP hS hr (by decide) (by rw [← e]) rfl dX4_isOpen_24
    · refine lv_iconst (v := 0) C.1 C.2.1 dX4_isOpen_23 (by decide) ?_
      have e := Option.some.inj h
      exact q_z C hlk hP hS hr (by decide) (by rw [← e]) rfl dX4_isOpen_24
theorem dX4_openDialog_0 : decode cX4_openDialog 0 = .ok (.aload_n 0, 1) := by decide +kernel
theorem dX4_openDialog_1 : decode cX4_openDialog 1 = .ok (.iload_n 1, 1) := by decide +kernel
theorem dX4_openDialog_2 : decode cX4_openDialog 2 = .ok (.invokevirtual 73, 3) := by decide +kernel
theorem dX4_openDialog_5 : decode cX4_openDialog 5 = .ok (.ifCond .eq 30, 3) := by decide +kernel
theorem dX4_openDialog_8 : decode cX4_openDialog 8 = .ok (.aload_n 0, 1) := by decide +kernel
theorem dX4_openDialog_9 : decode cX4_openDialog 9 = .ok (.dup, 1) := by decide +kernel
theorem dX4_openDialog_10 : decode cX4_openDialog 10 = .ok (.getfield 42, 3) := by decide +kernel
theorem dX4_openDialog_13 : decode cX4_openDialog 13 = .ok (.iconst 1, 1) := by decide +kernel
theorem dX4_openDialog_14 : decode cX4_openDialog 14 = .ok (.iadd, 1) := by decide +kernel
theorem dX4_openDialog_15 : decode cX4_openDialog 15 = .ok (.putfield 42, 3) := by decide +kernel
theorem dX4_openDialog_18 : decode cX4_openDialog 18 = .ok (.aload_n 0, 1) := by decide +kernel
theorem dX4_openDialog_19 : decode cX4_openDialog 19 = .ok (.getfield 39, 3) := by decide +kernel
theorem dX4_openDialog_22 : decode cX4_openDialog 22 = .ok (.iload_n 1, 1) := by decide +kernel
theorem dX4_openDialog_23 : decode cX4_openDialog 23 = .ok (.aload_n 0, 1) := by decide +kernel
theorem dX4_openDialog_24 : decode cX4_openDialog 24 = .ok (.getfield 42, 3) := by decide +kernel
theorem dX4_openDialog_27 : decode cX4_openDialog 27 = .ok (.iastore, 1) := by decide +kernel
theorem dX4_openDialog_28 : decode cX4_openDialog 28 = .ok (.aload_n 0, 1) := by decide +kernel
theorem dX4_openDialog_29 : decode cX4_openDialog 29 = .ok (.getfield 46, 3) := by decide +kernel
theorem dX4_openDialog_32 : decode cX4_openDialog 32 = .ok (.iload_n 1, 1) := by decide +kernel
theorem dX4_openDialog_33 : decode cX4_openDialog 33 = .ok (.iload_n 2, 1) := by decide +kernel
theorem dX4_openDialog_34 : decode cX4_openDialog 34 = .ok (.iastore, 1) := by decide +kernel
theorem dX4_openDialog_35 : decode cX4_openDialog 35 = .ok (.return_, 1) := by decide +kernel
abbrev rmX4_openDialog : Room := { frames := 2, cells := 0, slots := 0, locals := 61 }
noncomputable def fX4_openDialog (n : Nat) (Sh : Sp) (M : Mm) (a0 : Nat) (a1 : Int32) (a2 : Int32) : Option Mm :=
  (fX4_has n Sh M a0 a1).bind fun r1 =>
  if r1 = 0 then
    some M
  else
    tI M a0 9 fun x2 =>
    qI M a0 9 (x2 + 1) fun M3 =>
    tF M3 a0 8 fun b4 =>
    tI M3 a0 9 fun x5 =>
    sI Sh M3 b4 a1 x5 fun M6 =>
    tF M6 a0 10 fun b7 =>
    sI Sh M6 b7 a1 a2 fun M8 =>
    some M8
set_option maxRecDepth 100000 in
set_option maxHeartbeats 4000000 in
theorem kX4_openDialog {l : Launch} {G : Gt} {n : Nat} {Sh : Sp} {M : Mm} {a0 : Nat} {a1 : Int32} {a2 : Int32} (hT : Sh a0 = some (.inl 4)) {r : Mm} (h : fX4_openDialog n Sh M a0 a1 a2 = some r) : Ct l yX4_openDialog cX4_openDialog 3 none rmX4_openDialog G Sh M [.ref a0, .int a1, .int a2] none r := by
  refine Ct.of (by decide) (Nat.le_of_ble_eq_true rfl) ?_
  intro p e s m args below meth c ls C hK hX hP hS hb hlk hr hl
  replace hl : lv_has ls 3 [(0, .ref a0), (1, .int a1), (2, .int a2)] := hl
  unfold fX4_openDialog at h
  refine lv_aload_n C.1 C.2.1 dX4_openDialog_0 rfl (lv_at hl 0 rfl) ?_
  refine lv_iload_n C.1 C.2.1 dX4_openDialog_1 rfl (lv_at hl 1 rfl) ?_
  obtain ⟨r1, hc, h⟩ := bS h
  refine r_V1 C hK hX hb hP hS hl.1 (kX4_has (hT) hc) hT cl_4 wd_297 mo_X4_has wd_298 wd_299 ⟨Nat.le_of_ble_eq_true rfl, Nat.le_of_ble_eq_true rfl⟩ ⟨Nat.le_of_ble_eq_true rfl, Nat.le_of_ble_eq_true rfl⟩ rfl (rest := []) rfl (Nat.le_of_ble_eq_true rfl) dX4_openDialog_2 (fun H locs hP hS => ?_)
  refine b_eq (tgt := 35) C dX4_openDialog_5 (by decide) h (fun h => ?_) (fun h => ?_)
  · have e := Option.some.inj h
    exact q_v C hlk hP hS hr rfl e.symm dX4_openDialog_35
  · refine lv_aload_n C.1 C.2.1 dX4_openDialog_8 rfl (lv_at hl 0 rfl) ?_
    refine lv_dup C.1 C.2.1 dX4_openDialog_9 rfl ?_
    refine r_tI C hK hP hT cl_4 (k := 9) (by decide) wd_153 rfl dX4_openDialog_10 h (fun x2 h => ?_)
    refine lv_iconst (v := 1) C.1 C.2.1 dX4_openDialog_13 (by decide) ?_
    refine lv_iadd C.1 C.2.1 dX4_openDialog_14 ?_
    refine r_qI C hK hP hS hT cl_4 (k := 9) (by decide) wd_153 rfl rfl (tyX4_ok 9 (by decide)) dX4_openDialog_15 h (fun M3 H locs h hP hS => ?_)
    refine lv_aload_n C.1 C.2.1 dX4_openDialog_18 rfl (lv_at hl 0 rfl) ?_
    refine r_tF C hK hP hT cl_4 (k := 8) (by decide) wd_152 rfl dX4_openDialog_19 h (fun b4 h => ?_)
    refine lv_iload_n C.1 C.2.1 dX4_openDialog_22 rfl (lv_at hl 1 rfl) ?_
    refine lv_aload_n C.1 C.2.1 dX4_openDialog_23 rfl (lv_at hl 0 rfl) ?_
    refine r_tI C hK hP hT cl_4 (k := 9) (by decide) wd_153 rfl dX4_openDialog_24 h (fun x5 h => ?_)
    refine r_sI C hK hP hS dX4_openDialog_27 h (fun M6 H locs h hP hS => ?_)
    refine lv_aload_n C.1 C.2.1 dX4_openDialog_28 rfl (lv_at hl 0 rfl) ?_
    refine r_tF C hK hP hT cl_4 (k := 10) (by decide) wd_154 rfl dX4_openDialog_29 h (fun b7 h => ?_)
    refine lv_iload_n C.1 C.2.1 dX4_openDialog_32 rfl (lv_at hl 1 rfl) ?_
    refine lv_iload_n C.1 C.2.1 dX4_openDialog_33 rfl (lv_at hl 2 rfl) ?_
    refine r_sI C hK hP hS dX4_openDialog_34 h (fun M8 H locs h hP hS => ?_)
    have e := Option.some.inj h
    exact q_v C hlk hP hS hr rfl e.symm dX4_openDialog_35
theorem dX4_closeDialog_0 : decode cX4_closeDialog 0 = .ok (.aload_n 0, 1) := by decide +kernel
theorem dX4_closeDialog_1 : decode cX4_closeDialog 1 = .ok (.iload_n 1, 1) := by decide +kernel
theorem dX4_closeDialog_2 : decode cX4_closeDialog 2 = .ok (.invokevirtual 73, 3) := by decide +kernel
theorem dX4_closeDialog_5 : decode cX4_closeDialog 5 = .ok (.ifCond .eq 10, 3) := by decide +kernel
theorem dX4_closeDialog_8 : decode cX4_closeDialog 8 = .ok (.aload_n 0, 1) := by decide +kernel
theorem dX4_closeDialog_9 : decode cX4_closeDialog 9 = .ok (.getfield 39, 3) := by decide +kernel
theorem dX4_closeDialog_12 : decode cX4_closeDialog 12 = .ok (.iload_n 1, 1) := by decide +kernel
theorem dX4_closeDialog_13 : decode cX4_closeDialog 13 = .ok (.iconst 0, 1) := by decide +kernel
theorem dX4_closeDialog_14 : decode cX4_closeDialog 14 = .ok (.iastore, 1) := by decide +kernel
theorem dX4_closeDialog_15 : decode cX4_closeDialog 15 = .ok (.return_, 1) := by decide +kernel
abbrev rmX4_closeDialog : Room := { frames := 2, cells := 0, slots := 0, locals := 61 }
noncomputable def fX4_closeDialog (n : Nat) (Sh : Sp) (M : Mm) (a0 : Nat) (a1 : Int32) : Option Mm :=
  (fX4_has n Sh M a0 a1).bind fun r1 =>
  if r1 = 0 then
    some M
  else
    tF M a0 8 fun b2 =>
    sI Sh M b2 a1 0 fun M3 =>
    some M3
set_option maxRecDepth 100000 in
set_option maxHeartbeats 4000000 in
theorem kX4_closeDialog {l : Launch} {G : Gt} {n : Nat} {Sh : Sp} {M : Mm} {a0 : Nat} {a1 : Int32} (hT : Sh a0 = some (.inl 4)) {r : Mm} (h : fX4_closeDialog n Sh M a0 a1 = some r) : Ct l yX4_closeDialog cX4_closeDialog 2 none rmX4_closeDialog G Sh M [.ref a0, .int a1] none r := by
  refine Ct.of (by decide) (Nat.le_of_ble_eq_true rfl) ?_
  intro p e s m args below meth c ls C hK hX hP hS hb hlk hr hl
  replace hl : lv_has ls 2 [(0, .ref a0), (1, .int a1)] := hl
  unfold fX4_closeDialog at h
  refine lv_aload_n C.1 C.2.1 dX4_closeDialog_0 rfl (lv_at hl 0 rfl) ?_
  refine lv_iload_n C.1 C.2.1 dX4_closeDialog_1 rfl (lv_at hl 1 rfl) ?_
  obtain ⟨r1, hc, h⟩ := bS h
  refine r_V1 C hK hX hb hP hS hl.1 (kX4_has (hT) hc) hT cl_4 wd_297 mo_X4_has wd_298 wd_299 ⟨Nat.le_of_ble_eq_true rfl, Nat.le_of_ble_eq_true rfl⟩ ⟨Nat.le_of_ble_eq_true rfl, Nat.le_of_ble_eq_true rfl⟩ rfl (rest := []) rfl (Nat.le_of_ble_eq_true rfl) dX4_closeDialog_2 (fun H locs hP hS => ?_)
  refine b_eq (tgt := 15) C dX4_closeDialog_5 (by decide) h (fun h => ?_) (fun h => ?_)
  · have e := Option.some.inj h
    exact q_v C hlk hP hS hr rfl e.symm dX4_closeDialog_15
  · refine lv_aload_n C.1 C.2.1 dX4_closeDialog_8 rfl (lv_at hl 0 rfl) ?_
    refine r_tF C hK hP hT cl_4 (k := 8) (by decide) wd_152 rfl dX4_closeDialog_9 h (fun b2 h => ?_)
    refine lv_iload_n C.1 C.2.1 dX4_closeDialog_12 rfl (lv_at hl 1 rfl) ?_
    refine lv_iconst (v := 0) C.1 C.2.1 dX4_closeDialog_13 (by decide) ?_
    refine r_sI C hK hP hS dX4_closeDialog_14 h (fun M3 H locs h hP hS => ?_)
    have e := Option.some.inj h
    exact q_v C hlk hP hS hr rfl e.symm dX4_closeDialog_15
