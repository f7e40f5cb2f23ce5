theorem dX7_remove_0 : decode cX7_remove 0 = .ok (.aload_n 0, 1) := by decide +kernel
theorem dX7_remove_1 : decode cX7_remove 1 = .ok (.aload_n 0, 1) := by decide +kernel
theorem dX7_remove_2 : decode cX7_remove 2 = .ok (.iload_n 1, 1) := by decide +kernel
theorem dX7_remove_3 : decode cX7_remove 3 = .ok (.invokevirtual 123, 3) := by decide +kernel
theorem dX7_remove_6 : decode cX7_remove 6 = .ok (.ifCond .ne 7, 3) := by decide +kernel
theorem dX7_remove_9 : decode cX7_remove 9 = .ok (.iconst 1, 1) := by decide +kernel
theorem dX7_remove_10 : decode cX7_remove 10 = .ok (.goto 12, 3) := by decide +kernel
theorem dX7_remove_13 : decode cX7_remove 13 = .ok (.iload_n 1, 1) := by decide +kernel
theorem dX7_remove_14 : decode cX7_remove 14 = .ok (.ifCond .ne 7, 3) := by decide +kernel
theorem dX7_remove_17 : decode cX7_remove 17 = .ok (.iconst 2, 1) := by decide +kernel
theorem dX7_remove_18 : decode cX7_remove 18 = .ok (.goto 4, 3) := by decide +kernel
theorem dX7_remove_21 : decode cX7_remove 21 = .ok (.iconst 0, 1) := by decide +kernel
theorem dX7_remove_22 : decode cX7_remove 22 = .ok (.putfield 29, 3) := by decide +kernel
theorem dX7_remove_25 : decode cX7_remove 25 = .ok (.aload_n 0, 1) := by decide +kernel
theorem dX7_remove_26 : decode cX7_remove 26 = .ok (.getfield 29, 3) := by decide +kernel
theorem dX7_remove_29 : decode cX7_remove 29 = .ok (.ifCond .eq 5, 3) := by decide +kernel
theorem dX7_remove_32 : decode cX7_remove 32 = .ok (.iconst 0, 1) := by decide +kernel
theorem dX7_remove_33 : decode cX7_remove 33 = .ok (.ireturn, 1) := by decide +kernel
theorem dX7_remove_34 : decode cX7_remove 34 = .ok (.aload_n 0, 1) := by decide +kernel
theorem dX7_remove_35 : decode cX7_remove 35 = .ok (.invokevirtual 133, 3) := by decide +kernel
theorem dX7_remove_38 : decode cX7_remove 38 = .ok (.iconst 0, 1) := by decide +kernel
theorem dX7_remove_39 : decode cX7_remove 39 = .ok (.istore_n 2, 1) := by decide +kernel
theorem dX7_remove_40 : decode cX7_remove 40 = .ok (.iconst 0, 1) := by decide +kernel
theorem dX7_remove_41 : decode cX7_remove 41 = .ok (.istore_n 3, 1) := by decide +kernel
theorem dX7_remove_42 : decode cX7_remove 42 = .ok (.iload_n 3, 1) := by decide +kernel
theorem dX7_remove_43 : decode cX7_remove 43 = .ok (.bipush 24, 2) := by decide +kernel
theorem dX7_remove_45 : decode cX7_remove 45 = .ok (.if_icmp .ge 61, 3) := by decide +kernel
theorem dX7_remove_48 : decode cX7_remove 48 = .ok (.aload_n 0, 1) := by decide +kernel
theorem dX7_remove_49 : decode cX7_remove 49 = .ok (.getfield 22, 3) := by decide +kernel
theorem dX7_remove_52 : decode cX7_remove 52 = .ok (.iload_n 3, 1) := by decide +kernel
theorem dX7_remove_53 : decode cX7_remove 53 = .ok (.aload_n 0, 1) := by decide +kernel
theorem dX7_remove_54 : decode cX7_remove 54 = .ok (.iload_n 3, 1) := by decide +kernel
theorem dX7_remove_55 : decode cX7_remove 55 = .ok (.iconst 0, 1) := by decide +kernel
theorem dX7_remove_56 : decode cX7_remove 56 = .ok (.invokevirtual 40, 3) := by decide +kernel
theorem dX7_remove_59 : decode cX7_remove 59 = .ok (.iconst 1, 1) := by decide +kernel
theorem dX7_remove_60 : decode cX7_remove 60 = .ok (.if_icmp .ne 21, 3) := by decide +kernel
theorem dX7_remove_63 : decode cX7_remove 63 = .ok (.iload_n 3, 1) := by decide +kernel
theorem dX7_remove_64 : decode cX7_remove 64 = .ok (.iload_n 1, 1) := by decide +kernel
theorem dX7_remove_65 : decode cX7_remove 65 = .ok (.if_icmp .eq 12, 3) := by decide +kernel
theorem dX7_remove_68 : decode cX7_remove 68 = .ok (.aload_n 0, 1) := by decide +kernel
theorem dX7_remove_69 : decode cX7_remove 69 = .ok (.iload_n 3, 1) := by decide +kernel
theorem dX7_remove_70 : decode cX7_remove 70 = .ok (.iload_n 1, 1) := by decide +kernel
theorem dX7_remove_71 : decode cX7_remove 71 = .ok (.invokevirtual 139, 3) := by decide +kernel
theorem dX7_remove_74 : decode cX7_remove 74 = .ok (.ifCond .eq 7, 3) := by decide +kernel
theorem dX7_remove_77 : decode cX7_remove 77 = .ok (.iconst 1, 1) := by decide +kernel
theorem dX7_remove_78 : decode cX7_remove 78 = .ok (.goto 4, 3) := by decide +kernel
theorem dX7_remove_81 : decode cX7_remove 81 = .ok (.iconst 0, 1) := by decide +kernel
theorem dX7_remove_82 : decode cX7_remove 82 = .ok (.bastore, 1) := by decide +kernel
theorem dX7_remove_83 : decode cX7_remove 83 = .ok (.iload_n 2, 1) := by decide +kernel
theorem dX7_remove_84 : decode cX7_remove 84 = .ok (.aload_n 0, 1) := by decide +kernel
theorem dX7_remove_85 : decode cX7_remove 85 = .ok (.getfield 22, 3) := by decide +kernel
theorem dX7_remove_88 : decode cX7_remove 88 = .ok (.iload_n 3, 1) := by decide +kernel
theorem dX7_remove_89 : decode cX7_remove 89 = .ok (.baload, 1) := by decide +kernel
theorem dX7_remove_90 : decode cX7_remove 90 = .ok (.ifCond .eq 7, 3) := by decide +kernel
theorem dX7_remove_93 : decode cX7_remove 93 = .ok (.iconst 1, 1) := by decide +kernel
theorem dX7_remove_94 : decode cX7_remove 94 = .ok (.goto 4, 3) := by decide +kernel
theorem dX7_remove_97 : decode cX7_remove 97 = .ok (.iconst 0, 1) := by decide +kernel
theorem dX7_remove_98 : decode cX7_remove 98 = .ok (.iadd, 1) := by decide +kernel
theorem dX7_remove_99 : decode cX7_remove 99 = .ok (.istore_n 2, 1) := by decide +kernel
theorem dX7_remove_100 : decode cX7_remove 100 = .ok (.iinc 3 1, 3) := by decide +kernel
theorem dX7_remove_103 : decode cX7_remove 103 = .ok (.goto (-61), 3) := by decide +kernel
theorem dX7_remove_106 : decode cX7_remove 106 = .ok (.aload_n 0, 1) := by decide +kernel
theorem dX7_remove_107 : decode cX7_remove 107 = .ok (.iload_n 1, 1) := by decide +kernel
theorem dX7_remove_108 : decode cX7_remove 108 = .ok (.invokevirtual 143, 3) := by decide +kernel
theorem dX7_remove_111 : decode cX7_remove 111 = .ok (.iconst 0, 1) := by decide +kernel
theorem dX7_remove_112 : decode cX7_remove 112 = .ok (.istore_n 3, 1) := by decide +kernel
theorem dX7_remove_113 : decode cX7_remove 113 = .ok (.iload_n 3, 1) := by decide +kernel
theorem dX7_remove_114 : decode cX7_remove 114 = .ok (.bipush 24, 2) := by decide +kernel
theorem dX7_remove_116 : decode cX7_remove 116 = .ok (.if_icmp .ge 34, 3) := by decide +kernel
theorem dX7_remove_119 : decode cX7_remove 119 = .ok (.aload_n 0, 1) := by decide +kernel
theorem dX7_remove_120 : decode cX7_remove 120 = .ok (.iload_n 3, 1) := by decide +kernel
theorem dX7_remove_121 : decode cX7_remove 121 = .ok (.iconst 0, 1) := by decide +kernel
theorem dX7_remove_122 : decode cX7_remove 122 = .ok (.aload_n 0, 1) := by decide +kernel
theorem dX7_remove_123 : decode cX7_remove 123 = .ok (.getfield 22, 3) := by decide +kernel
theorem dX7_remove_126 : decode cX7_remove 126 = .ok (.iload_n 3, 1) := by decide +kernel
theorem dX7_remove_127 : decode cX7_remove 127 = .ok (.baload, 1) := by decide +kernel
theorem dX7_remove_128 : decode cX7_remove 128 = .ok (.ifCond .eq 7, 3) := by decide +kernel
theorem dX7_remove_131 : decode cX7_remove 131 = .ok (.iconst 0, 1) := by decide +kernel
theorem dX7_remove_132 : decode cX7_remove 132 = .ok (.goto 9, 3) := by decide +kernel
theorem dX7_remove_135 : decode cX7_remove 135 = .ok (.aload_n 0, 1) := by decide +kernel
theorem dX7_remove_136 : decode cX7_remove 136 = .ok (.iload_n 3, 1) := by decide +kernel
theorem dX7_remove_137 : decode cX7_remove 137 = .ok (.iconst 0, 1) := by decide +kernel
theorem dX7_remove_138 : decode cX7_remove 138 = .ok (.invokevirtual 40, 3) := by decide +kernel
theorem dX7_remove_141 : decode cX7_remove 141 = .ok (.invokevirtual 54, 3) := by decide +kernel
theorem dX7_remove_144 : decode cX7_remove 144 = .ok (.iinc 3 1, 3) := by decide +kernel
theorem dX7_remove_147 : decode cX7_remove 147 = .ok (.goto (-34), 3) := by decide +kernel
theorem dX7_remove_150 : decode cX7_remove 150 = .ok (.aload_n 0, 1) := by decide +kernel
theorem dX7_remove_151 : decode cX7_remove 151 = .ok (.invokevirtual 146, 3) := by decide +kernel
theorem dX7_remove_154 : decode cX7_remove 154 = .ok (.iload_n 2, 1) := by decide +kernel
theorem dX7_remove_155 : decode cX7_remove 155 = .ok (.ireturn, 1) := by decide +kernel
abbrev rmX7_remove : Room := { frames := 4, cells := 0, slots := 0, locals := 104 }
noncomputable def fX7_remove_150 (n : Nat) (Sh : Sp) (a0 : Nat) (a1 : Int32) (M : Mm) (v2 : Int32) : Option (Int32 × Mm) :=
  (fX7_forget n Sh M a0).bind fun r1 =>
  some (v2, r1)
noncomputable def fX7_remove_141 (n : Nat) (Sh : Sp) (a0 : Nat) (a1 : Int32) (M : Mm) (v2 : Int32) (v3 : Int32) (t0 : Nat) (t1 : Int32) (t2 : Int32) (t3 : Int32) : Option ((Int32 × Mm) ⊕ (Int32 × Mm)) :=
  chk (Sh t0 = some (.inl 7)) <|
  (fX7_put n Sh M t0 t1 t2 t3).bind fun r2 =>
  some (Sum.inl ((v3 + 1), r2))
noncomputable def fX7_remove_113b (n : Nat) (Sh : Sp) (a0 : Nat) (a1 : Int32) (M : Mm) (v2 : Int32) (v3 : Int32) : Option ((Int32 × Mm) ⊕ (Int32 × Mm)) :=
  if v3 < 24 then
    tF M a0 8 fun b3 =>
    aI Sh M b3 3 v3 fun x4 =>
    if x4 = 0 then
      (fX7_of n Sh M a0 v3 0).bind fun r5 =>
      fX7_remove_141 n Sh a0 a1 M v2 v3 a0 v3 0 r5
    else
      fX7_remove_141 n Sh a0 a1 M v2 v3 a0 v3 0 0
  else
    (fX7_remove_150 n Sh a0 a1 M v2).map Sum.inr
noncomputable def fX7_remove_113 (n : Nat) (Sh : Sp) (a0 : Nat) (a1 : Int32) (M : Mm) (v2 : Int32) (v3 : Int32) : Option (Int32 × Mm) :=
  iter n (fun s => fX7_remove_113b n Sh a0 a1 s.2 v2 s.1) (v3, M)
noncomputable def fX7_remove_106 (n : Nat) (Sh : Sp) (a0 : Nat) (a1 : Int32) (M : Mm) (v2 : Int32) : Option (Int32 × Mm) :=
  (fX7_detach n Sh M a0 a1).bind fun r6 =>
  fX7_remove_113 n Sh a0 a1 r6 v2 0
noncomputable def fX7_remove_98 (n : Nat) (Sh : Sp) (a0 : Nat) (a1 : Int32) (M : Mm) (v3 : Int32) (t0 : Int32) (t1 : Int32) : Option ((Int32 × Int32 × Mm) ⊕ (Int32 × Mm)) :=
  some (Sum.inl ((t0 + t1), (v3 + 1), M))
noncomputable def fX7_remove_82 (n : Nat) (Sh : Sp) (a0 : Nat) (a1 : Int32) (M : Mm) (v2 : Int32) (v3 : Int32) (t0 : Nat) (t1 : Int32) (t2 : Int32) : Option ((Int32 × Int32 × Mm) ⊕ (Int32 × Mm)) :=
  sZ Sh M t0 t1 t2 fun M7 =>
  tF M7 a0 8 fun b8 =>
  aI Sh M7 b8 3 v3 fun x9 =>
  if x9 = 0 then
    fX7_remove_98 n Sh a0 a1 M7 v3 v2 0
  else
    fX7_remove_98 n Sh a0 a1 M7 v3 v2 1
noncomputable def fX7_remove_81 (n : Nat) (Sh : Sp) (a0 : Nat) (a1 : Int32) (M : Mm) (v2 : Int32) (v3 : Int32) (t0 : Nat) (t1 : Int32) : Option ((Int32 × Int32 × Mm) ⊕ (Int32 × Mm)) :=
  fX7_remove_82 n Sh a0 a1 M v2 v3 t0 t1 0
noncomputable def fX7_remove_77 (n : Nat) (Sh : Sp) (a0 : Nat) (a1 : Int32) (M : Mm) (v2 : Int32) (v3 : Int32) (t0 : Nat) (t1 : Int32) : Option ((Int32 × Int32 × Mm) ⊕ (Int32 × Mm)) :=
  fX7_remove_82 n Sh a0 a1 M v2 v3 t0 t1 1
noncomputable def fX7_remove_42b (n : Nat) (Sh : Sp) (a0 : Nat) (a1 : Int32) (M : Mm) (v2 : Int32) (v3 : Int32) : Option ((Int32 × Int32 × Mm) ⊕ (Int32 × Mm)) :=
  if v3 < 24 then
    tF M a0 8 fun b10 =>
    (fX7_of n Sh M a0 v3 0).bind fun r11 =>
    if r11 = 1 then
      if v3 = a1 then
        fX7_remove_77 n Sh a0 a1 M v2 v3 b10 v3
      else
        (fX7_isBelow n Sh M a0 v3 a1).bind fun r12 =>
        if r12 = 0 then
          fX7_remove_81 n Sh a0 a1 M v2 v3 b10 v3
        else
          fX7_remove_77 n Sh a0 a1 M v2 v3 b10 v3
    else
      fX7_remove_81 n Sh a0 a1 M v2 v3 b10 v3
  else
    (fX7_remove_106 n Sh a0 a1 M v2).map Sum.inr
noncomputable def fX7_remove_42 (n : Nat) (Sh : Sp) (a0 : Nat) (a1 : Int32) (M : Mm) (v2 : Int32) (v3 : Int32) : Option (Int32 × Mm) :=
  iter n (fun s => fX7_remove_42b n Sh a0 a1 s.2.2 s.1 s.2.1) (v2, v3, M)
noncomputable def fX7_remove_22 (n : Nat) (Sh : Sp) (a0 : Nat) (a1 : Int32) (M : Mm) (t0 : Nat) (t1 : Int32) : Option (Int32 × Mm) :=
  pI Sh M t0 7 5 t1 fun M13 =>
  tI M13 a0 5 fun x14 =>
  if x14 = 0 then
    (fX7_keep n Sh M13 a0).bind fun r15 =>
    fX7_remove_42 n Sh a0 a1 r15 0 0
  else
    some (0, M13)
noncomputable def fX7_remove (n : Nat) (Sh : Sp) (M : Mm) (a0 : Nat) (a1 : Int32) : Option (Int32 × Mm) :=
  (fX7_isNode n Sh M a0 a1).bind fun r16 =>
  if r16 = 0 then
    fX7_remove_22 n Sh a0 a1 M a0 1
  else
    if a1 = 0 then
      fX7_remove_22 n Sh a0 a1 M a0 2
    else
      fX7_remove_22 n Sh a0 a1 M a0 0
set_option maxRecDepth 100000 in
set_option maxHeartbeats 4000000 in
theorem kX7_remove {l : Launch} {G : Gt} {n : Nat} {Sh : Sp} {M : Mm} {a0 : Nat} {a1 : Int32} (hT : Sh a0 = some (.inl 7)) {r : (Int32 × Mm)} (h : fX7_remove n Sh M a0 a1 = some r) : Ct l yX7_remove cX7_remove 4 (some .int) rmX7_remove G Sh M [.ref a0, .int a1] (some (.int r.1)) r.2 := by
  refine Ct.of (by decide) (Nat.le_of_ble_eq_true rfl) ?_
  intro p e s m args below meth c ls C hK hX hP hS hb hlk hr hl
  replace hl : lv_has ls 4 [(0, .ref a0), (1, .int a1)] := hl
  have J150 : ∀ (M : Mm) (v2 : Int32) (H : Heap) (locs : List Loc) (ls : Array Slot), HM G Sh M H → SS G s s.heap.size H locs → lv_has ls 4 [(0, .ref a0), (1, .int a1), (2, .int v2)] → fX7_remove_150 n Sh a0 a1 M v2 = some r → W p l e rmX7_remove s m args below meth c H locs 0 0 (MQ below (QG G Sh r.2 (some (.int r.1))) args s rmX7_remove.cells rmX7_remove.slots (AA G)) (F0 m 150 ls []) := by
    intro M v2 H locs ls hP hS hl h
    unfold fX7_remove_150 at h
    refine lv_aload_n C.1 C.2.1 dX7_remove_150 rfl (lv_at hl 0 rfl) ?_
    obtain ⟨r1, hc, h⟩ := bS h
    refine r_V0 C hK hX hb hP hS hl.1 (kX7_forget (hT) hc) hT cl_7 wd_1233 mo_X7_forget wd_1235 wd_32 ⟨Nat.le_of_ble_eq_true rfl, Nat.le_of_ble_eq_true rfl⟩ ⟨Nat.le_of_ble_eq_true rfl, Nat.le_of_ble_eq_true rfl⟩ rfl (rest := []) rfl (Nat.le_of_ble_eq_true rfl) dX7_remove_151 (fun H locs hP hS => ?_)
    refine lv_iload_n C.1 C.2.1 dX7_remove_154 rfl (lv_at hl 2 rfl) ?_
    have e := Option.some.inj h
    exact q_i C hlk hP hS hr (by rw [← e]) (by rw [← e]) dX7_remove_155
  have J113 : ∀ (v2 : Int32), ∀ (k : Nat) (v3 : Int32) (M : Mm) (H : Heap) (locs : List Loc) (ls : Array Slot), HM G Sh M H → SS G s s.heap.size H locs → lv_has ls 4 [(0, .ref a0), (1, .int a1), (2, .int v2), (3, .int v3)] → iter k (fun s => fX7_remove_113b n Sh a0 a1 s.2 v2 s.1) (v3, M) = some r → W p l e rmX7_remove s m args below meth c H locs 0 0 (MQ below (QG G Sh r.2 (some (.int r.1))) args s rmX7_remove.cells rmX7_remove.slots (AA G)) (F0 m 113 ls []) := by
    intro v2 k
    induction k with
    | zero => intro v3 M H locs ls hP hS hl h; exact (iter_0 h).elim
    | succ k ih1 =>
      intro v3 M H locs ls hP hS hl h
      obtain ⟨z1, h, hz1⟩ := iter_some h
      replace h : fX7_remove_113b n Sh a0 a1 M v2 v3 = some z1 := h
      have J141 : ∀ (M : Mm) (v3 : Int32) (t0 : Nat) (t1 : Int32) (t2 : Int32) (t3 : Int32) (H : Heap) (locs : List Loc) (ls : Array Slot), HM G Sh M H → SS G s s.heap.size H locs → lv_has ls 4 [(0, .ref a0), (1, .int a1), (2, .int v2), (3, .int v3)] → fX7_remove_141 n Sh a0 a1 M v2 v3 t0 t1 t2 t3 = some z1 → W p l e rmX7_remove s m args below meth c H locs 0 0 (MQ below (QG G Sh r.2 (some (.int r.1))) args s rmX7_remove.cells rmX7_remove.slots (AA G)) (F0 m 141 ls [.int t3, .int t2, .int t1, .ref t0]) := by
        intro M v3 t0 t1 t2 t3 H locs ls hP hS hl h
        unfold fX7_remove_141 at h
        obtain ⟨hs, h⟩ := chk_some h
        obtain ⟨r2, hc, h⟩ := bS h
        refine r_V0 C hK hX hb hP hS hl.1 (kX7_put (hs) hc) hs cl_7 wd_1213 mo_X7_put wd_1215 wd_28 ⟨Nat.le_of_ble_eq_true rfl, Nat.le_of_ble_eq_true rfl⟩ ⟨Nat.le_of_ble_eq_true rfl, Nat.le_of_ble_eq_true rfl⟩ rfl (rest := []) rfl (Nat.le_of_ble_eq_true rfl) dX7_remove_141 (fun H locs hP hS => ?_)
        refine lv_iinc (v := (v3 + 1)) (lv' := [(3, .int (v3 + 1)), (0, .ref a0), (1, .int a1), (2, .int v2)]) C.1 C.2.1 dX7_remove_144 hl (k := 3) rfl rfl (by decide) rfl (fun ls hl => ?_)
        refine lv_goto (tgt := 113) C.1 C.2.1 dX7_remove_147 (by decide) ?_
        have e := Option.some.inj h
        rw [← e] at hz1
        exact ih1 ((v3 + 1)) r2 _ _ _ hP hS (lv_sub hl [1, 2, 3, 0] rfl) (itK_inl hz1)
      unfold fX7_remove_113b at h
      refine lv_iload_n C.1 C.2.1 dX7_remove_113 rfl (lv_at hl 3 rfl) ?_
      refine lv_bipush (v := 24) C.1 C.2.1 dX7_remove_114 (by decide) ?_
      refine b_ige (tgt := 150) C dX7_remove_116 (by decide) h (fun h => ?_) (fun h => ?_)
      · refine lv_aload_n C.1 C.2.1 dX7_remove_119 rfl (lv_at hl 0 rfl) ?_
        refine lv_iload_n C.1 C.2.1 dX7_remove_120 rfl (lv_at hl 3 rfl) ?_
        refine lv_iconst (v := 0) C.1 C.2.1 dX7_remove_121 (by decide) ?_
        refine lv_aload_n C.1 C.2.1 dX7_remove_122 rfl (lv_at hl 0 rfl) ?_
        refine r_tF C hK hP hT cl_7 (k := 8) (by decide) wd_1152 rfl dX7_remove_123 h (fun b3 h => ?_)
        refine lv_iload_n C.1 C.2.1 dX7_remove_126 rfl (lv_at hl 3 rfl) ?_
        refine r_aZ C hK hP dX7_remove_127 h (fun x4 h => ?_)
        refine b_eq (tgt := 135) C dX7_remove_128 (by decide) h (fun h => ?_) (fun h => ?_)
        · refine lv_aload_n C.1 C.2.1 dX7_remove_135 rfl (lv_at hl 0 rfl) ?_
          refine lv_iload_n C.1 C.2.1 dX7_remove_136 rfl (lv_at hl 3 rfl) ?_
          refine lv_iconst (v := 0) C.1 C.2.1 dX7_remove_137 (by decide) ?_
          obtain ⟨r5, hc, h⟩ := bS h
          refine r_V1 C hK hX hb hP hS hl.1 (kX7_of (hT) hc) hT cl_7 wd_1197 mo_X7_of wd_1199 wd_24 ⟨Nat.le_of_ble_eq_true rfl, Nat.le_of_ble_eq_true rfl⟩ ⟨Nat.le_of_ble_eq_true rfl, Nat.le_of_ble_eq_true rfl⟩ rfl (rest := [.int 0, .int v3, .ref a0]) rfl (Nat.le_of_ble_eq_true rfl) dX7_remove_138 (fun H locs hP hS => ?_)
          exact J141 (M) (v3) (a0) (v3) (0) (r5) _ _ _ hP hS (lv_sub hl [0, 1, 2, 3] rfl) h
        · refine lv_iconst (v := 0) C.1 C.2.1 dX7_remove_131 (by decide) ?_
          refine lv_goto (tgt := 141) C.1 C.2.1 dX7_remove_132 (by decide) ?_
          exact J141 (M) (v3) (a0) (v3) (0) (0) _ _ _ hP hS (lv_sub hl [0, 1, 2, 3] rfl) h
      · obtain ⟨w1, h, e⟩ := mS h
        rw [← e] at hz1
        replace e := itK_inr hz1
        rw [e] at h
        exact J150 (M) (v2) _ _ _ hP hS (lv_sub hl [0, 1, 2] rfl) h
  have J106 : ∀ (M : Mm) (v2 : Int32) (H : Heap) (locs : List Loc) (ls : Array Slot), HM G Sh M H → SS G s s.heap.size H locs → lv_has ls 4 [(0, .ref a0), (1, .int a1), (2, .int v2)] → fX7_remove_106 n Sh a0 a1 M v2 = some r → W p l e rmX7_remove s m args below meth c H locs 0 0 (MQ below (QG G Sh r.2 (some (.int r.1))) args s rmX7_remove.cells rmX7_remove.slots (AA G)) (F0 m 106 ls []) := by
    intro M v2 H locs ls hP hS hl h
    unfold fX7_remove_106 at h
    refine lv_aload_n C.1 C.2.1 dX7_remove_106 rfl (lv_at hl 0 rfl) ?_
    refine lv_iload_n C.1 C.2.1 dX7_remove_107 rfl (lv_at hl 1 rfl) ?_
    obtain ⟨r6, hc, h⟩ := bS h
    refine r_V0 C hK hX hb hP hS hl.1 (kX7_detach (hT) hc) hT cl_7 wd_1229 mo_X7_detach wd_1231 wd_31 ⟨Nat.le_of_ble_eq_true rfl, Nat.le_of_ble_eq_true rfl⟩ ⟨Nat.le_of_ble_eq_true rfl, Nat.le_of_ble_eq_true rfl⟩ rfl (rest := []) rfl (Nat.le_of_ble_eq_true rfl) dX7_remove_108 (fun H locs hP hS => ?_)
    refine lv_iconst (v := 0) C.1 C.2.1 dX7_remove_111 (by decide) ?_
    refine lv_istore_n (lv' := [(3, .int 0), (0, .ref a0), (1, .int a1), (2, .int v2)]) C.1 C.2.1 dX7_remove_112 rfl hl (by decide) rfl (fun ls hl => ?_)
    exact J113 (v2) n (0) r6 _ _ _ hP hS (lv_sub hl [1, 2, 3, 0] rfl) h
  have J42 : ∀ (k : Nat) (v2 : Int32) (v3 : Int32) (M : Mm) (H : Heap) (locs : List Loc) (ls : Array Slot), HM G Sh M H → SS G s s.heap.size H locs → lv_has ls 4 [(0, .ref a0), (1, .int a1), (2, .int v2), (3, .int v3)] → iter k (fun s => fX7_remove_42b n Sh a0 a1 s.2.2 s.1 s.2.1) (v2, v3, M) = some r → W p l e rmX7_remove s m args below meth c H locs 0 0 (MQ below (QG G Sh r.2 (some (.int r.1))) args s rmX7_remove.cells rmX7_remove.slots (AA G)) (F0 m 42 ls []) := by
    intro k
    induction k with
    | zero => intro v2 v3 M H locs ls hP hS hl h; exact (iter_0 h).elim
    | succ k ih1 =>
      intro v2 v3 M H locs ls hP hS hl h
      obtain ⟨z1, h, hz1⟩ := iter_some h
      replace h : fX7_remove_42b n Sh a0 a1 M v2 v3 = some z1 := h
      have J98 : ∀ (M : Mm) (v3 : Int32) (t0 : Int32) (t1 : Int32) (H : Heap) (locs : List Loc) (ls : Array Slot), HM G Sh M H → SS G s s.heap.size H locs → lv_has ls 4 [(0, .ref a0), (1, .int a1), (3, .int v3)] → fX7_remove_98 n Sh a0 a1 M v3 t0 t1 = some z1 → W p l e rmX7_remove s m args below meth c H locs 0 0 (MQ below (QG G Sh r.2 (some (.int r.1))) args s rmX7_remove.cells rmX7_remove.slots (AA G)) (F0 m 98 ls [.int t1, .int t0]) := by
        intro M v3 t0 t1 H locs ls hP hS hl h
        unfold fX7_remove_98 at h
        refine lv_iadd C.1 C.2.1 dX7_remove_98 ?_
        refine lv_istore_n (lv' := [(2, .int (t0 + t1)), (0, .ref a0), (1, .int a1), (3, .int v3)]) C.1 C.2.1 dX7_remove_99 rfl hl (by decide) rfl (fun ls hl => ?_)
        refine lv_iinc (v := (v3 + 1)) (lv' := [(3, .int (v3 + 1)), (2, .int (t0 + t1)), (0, .ref a0), (1, .int a1)]) C.1 C.2.1 dX7_remove_100 hl (k := 3) rfl rfl (by decide) rfl (fun ls hl => ?_)
        refine lv_goto (tgt := 42) C.1 C.2.1 dX7_remove_103 (by decide) ?_
        have e := Option.some.inj h
        rw [← e] at hz1
        exact ih1 ((t0 + t1)) ((v3 + 1)) M _ _ _ hP hS (lv_sub hl [2, 3, 1, 0] rfl) (itK_inl hz1)
      have J82 : ∀ (M : Mm) (v2 : Int32) (v3 : Int32) (t0 : Nat) (t1 : Int32) (t2 : Int32) (H : Heap) (locs : List Loc) (ls : Array Slot), HM G Sh M H → SS G s s.heap.size H locs → lv_has ls 4 [(0, .ref a0), (1, .int a1), (2, .int v2), (3, .int v3)] → fX7_remove_82 n Sh a0 a1 M v2 v3 t0 t1 t2 = some z1 → W p l e rmX7_remove s m args below meth c H locs 0 0 (MQ below (QG G Sh r.2 (some (.int r.1))) args s rmX7_remove.cells rmX7_remove.slots (AA G)) (F0 m 82 ls [.int t2, .int t1, .ref t0]) := by
        intro M v2 v3 t0 t1 t2 H locs ls hP hS hl h
        unfold fX7_remove_82 at h
        refine r_sZ C hK hP hS dX7_remove_82 h (fun M7 H locs h hP hS => ?_)
        refine lv_iload_n C.1 C.2.1 dX7_remove_83 rfl (lv_at hl 2 rfl) ?_
        refine lv_aload_n C.1 C.2.1 dX7_remove_84 rfl (lv_at hl 0 rfl) ?_
        refine r_tF C hK hP hT cl_7 (k := 8) (by decide) wd_1152 rfl dX7_remove_85 h (fun b8 h => ?_)
        refine lv_iload_n C.1 C.2.1 dX7_remove_88 rfl (lv_at hl 3 rfl) ?_
        refine r_aZ C hK hP dX7_remove_89 h (fun x9 h => ?_)
        refine b_eq (tgt := 97) C dX7_remove_90 (by decide) h (fun h => ?_) (fun h => ?_)
        · refine lv_iconst (v := 0) C.1 C.2.1 dX7_remove_97 (by decide) ?_
          exact J98 (M7) (v3) (v2) (0) _ _ _ hP hS (lv_sub hl [0, 1, 3] rfl) h
        · refine lv_iconst (v := 1) C.1 C.2.1 dX7_remove_93 (by decide) ?_
          refine lv_goto (tgt := 98) C.1 C.2.1 dX7_remove_94 (by decide) ?_
          exact J98 (M7) (v3) (v2) (1) _ _ _ hP hS (lv_sub hl [0, 1, 3] rfl) h
      have J81 : ∀ (M : Mm) (v2 : Int32) (v3 : Int32) (t0 : Nat) (t1 : Int32) (H : Heap) (locs : List Loc) (ls : Array Slot), HM G Sh M H → SS G s s.heap.size H locs → lv_has ls 4 [(0, .ref a0), (1, .int a1), (2, .int v2), (3, .int v3)] → fX7_remove_81 n Sh a0 a1 M v2 v3 t0 t1 = some z1 → W p l e rmX7_remove s m args below meth c H locs 0 0 (MQ below (QG G Sh r.2 (some (.int r.1))) args s rmX7_remove.cells rmX7_remove.slots (AA G)) (F0 m 81 ls [.int t1, .ref t0]) := by
        intro M v2 v3 t0 t1 H locs ls hP hS hl h
        unfold fX7_remove_81 at h
        refine lv_iconst (v := 0) C.1 C.2.1 dX7_remove_81 (by decide) ?_
        exact J82 (M) (v2) (v3) (t0) (t1) (0) _ _ _ hP hS (lv_sub hl [0, 1, 2, 3] rfl) h
      have J77 : ∀ (M : Mm) (v2 : Int32) (v3 : Int32) (t0 : Nat) (t1 : Int32) (H : Heap) (locs : List Loc) (ls : Array Slot), HM G Sh M H → SS G s s.heap.size H locs → lv_has ls 4 [(0, .ref a0), (1, .int a1), (2, .int v2), (3, .int v3)] → fX7_remove_77 n Sh a0 a1 M v2 v3 t0 t1 = some z1 → W p l e rmX7_remove s m args below meth c H locs 0 0 (MQ below (QG G Sh r.2 (some (.int r.1))) args s rmX7_remove.cells rmX7_remove.slots (AA G)) (F0 m 77 ls [.int t1, .ref t0]) := by
        intro M v2 v3 t0 t1 H locs ls hP hS hl h
        unfold fX7_remove_77 at h
        refine lv_iconst (v := 1) C.1 C.2.1 dX7_remove_77 (by decide) ?_
        refine lv_goto (tgt := 82) C.1 C.2.1 dX7_remove_78 (by decide) ?_
        exact J82 (M) (v2) (v3) (t0) (t1) (1) _ _ _ hP hS (lv_sub hl [0, 1, 2, 3] rfl) h
      unfold fX7_remove_42b at h
      refine lv_iload_n C.1 C.2.1 dX7_remove_42 rfl (lv_at hl 3 rfl) ?_
      refine lv_bipush (v := 24) C.1 C.2.1 dX7_remove_43 (by decide) ?_
      refine b_ige (tgt := 106) C dX7_remove_45 (by decide) h (fun h => ?_) (fun h => ?_)
      · refine lv_aload_n C.1 C.2.1 dX7_remove_48 rfl (lv_at hl 0 rfl) ?_
        refine r_tF C hK hP hT cl_7 (k := 8) (by decide) wd_1152 rfl dX7_remove_49 h (fun b10 h => ?_)
        refine lv_iload_n C.1 C.2.1 dX7_remove_52 rfl (lv_at hl 3 rfl) ?_
        refine lv_aload_n C.1 C.2.1 dX7_remove_53 rfl (lv_at hl 0 rfl) ?_
        refine lv_iload_n C.1 C.2.1 dX7_remove_54 rfl (lv_at hl 3 rfl) ?_
        refine lv_iconst (v := 0) C.1 C.2.1 dX7_remove_55 (by decide) ?_
        obtain ⟨r11, hc, h⟩ := bS h
        refine r_V1 C hK hX hb hP hS hl.1 (kX7_of (hT) hc) hT cl_7 wd_1197 mo_X7_of wd_1199 wd_24 ⟨Nat.le_of_ble_eq_true rfl, Nat.le_of_ble_eq_true rfl⟩ ⟨Nat.le_of_ble_eq_true rfl, Nat.le_of_ble_eq_true rfl⟩ rfl (rest := [.int v3, .ref b10]) rfl (Nat.le_of_ble_eq_true rfl) dX7_remove_56 (fun H locs hP hS => ?_)
        refine lv_iconst (v := 1) C.1 C.2.1 dX7_remove_59 (by decide) ?_
        refine b_ine (tgt := 81) C dX7_remove_60 (by decide) h (fun h => ?_) (fun h => ?_)
        · refine lv_iload_n C.1 C.2.1 dX7_remove_63 rfl (lv_at hl 3 rfl) ?_
          refine lv_iload_n C.1 C.2.1 dX7_remove_64 rfl (lv_at hl 1 rfl) ?_
          refine b_ieq (tgt := 77) C dX7_remove_65 (by decide) h (fun h => ?_) (fun h => ?_)
          · exact J77 (M) (v2) (v3) (b10) (v3) _ _ _ hP hS (lv_sub hl [0, 1, 2, 3] rfl) h
          · refine lv_aload_n C.1 C.2.1 dX7_remove_68 rfl (lv_at hl 0 rfl) ?_
            refine lv_iload_n C.1 C.2.1 dX7_remove_69 rfl (lv_at hl 3 rfl) ?_
            refine lv_iload_n C.1 C.2.1 dX7_remove_70 rfl (lv_at hl 1 rfl) ?_
            obtain ⟨r12, hc, h⟩ := bS h
            refine r_V1 C hK hX hb hP hS hl.1 (kX7_isBelow (hT) hc) hT cl_7 wd_1225 mo_X7_isBelow wd_1227 wd_30 ⟨Nat.le_of_ble_eq_true rfl, Nat.le_of_ble_eq_true rfl⟩ ⟨Nat.le_of_ble_eq_true rfl, Nat.le_of_ble_eq_true rfl⟩ rfl (rest := [.int v3, .ref b10]) rfl (Nat.le_of_ble_eq_true rfl) dX7_remove_71 (fun H locs hP hS => ?_)
            refine b_eq (tgt := 81) C dX7_remove_74 (by decide) h (fun h => ?_) (fun h => ?_)
            · exact J81 (M) (v2) (v3) (b10) (v3) _ _ _ hP hS (lv_sub hl [0, 1, 2, 3] rfl) h
            · exact J77 (M) (v2) (v3) (b10) (v3) _ _ _ hP hS (lv_sub hl [0, 1, 2, 3] rfl) h
        · exact J81 (M) (v2) (v3) (b10) (v3) _ _ _ hP hS (lv_sub hl [0, 1, 2, 3] rfl) h
      · obtain ⟨w1, h, e⟩ := mS h
        rw [← e] at hz1
        replace e := itK_inr hz1
        rw [e] at h
        exact J106 (M) (v2) _ _ _ hP hS (lv_sub hl [0, 1, 2] rfl) h
  have J22 : ∀ (M : Mm) (t0 : Nat) (t1 : Int32) (H : Heap) (locs : List Loc) (ls : Array Slot), HM G Sh M H → SS G s s.heap.size H locs → lv_has ls 4 [(0, .ref a0), (1, .int a1)] → fX7_remove_22 n Sh a0 a1 M t0 t1 = some r → W p l e rmX7_remove s m args below meth c H locs 0 0 (MQ below (QG G Sh r.2 (some (.int r.1))) args s rmX7_remove.cells rmX7_remove.slots (AA G)) (F0 m 22 ls [.int t1, .ref t0]) := by
    intro M t0 t1 H locs ls hP hS hl h
    unfold fX7_remove_22 at h
    refine r_pI C hK hP hS cl_7 (k := 5) (by decide) wd_1149 rfl rfl (tyX7_ok 5 (by decide)) dX7_remove_22 h (fun M13 H locs h hP hS => ?_)
    refine lv_aload_n C.1 C.2.1 dX7_remove_25 rfl (lv_at hl 0 rfl) ?_
    refine r_tI C hK hP hT cl_7 (k := 5) (by decide) wd_1149 rfl dX7_remove_26 h (fun x14 h => ?_)
    refine b_eq (tgt := 34) C dX7_remove_29 (by decide) h (fun h => ?_) (fun h => ?_)
    · refine lv_aload_n C.1 C.2.1 dX7_remove_34 rfl (lv_at hl 0 rfl) ?_
      obtain ⟨r15, hc, h⟩ := bS h
      refine r_V0 C hK hX hb hP hS hl.1 (kX7_keep (hT) hc) hT cl_7 wd_1209 mo_X7_keep wd_1211 wd_27 ⟨Nat.le_of_ble_eq_true rfl, Nat.le_of_ble_eq_true rfl⟩ ⟨Nat.le_of_ble_eq_true rfl, Nat.le_of_ble_eq_true rfl⟩ rfl (rest := []) rfl (Nat.le_of_ble_eq_true rfl) dX7_remove_35 (fun H locs hP hS => ?_)
      refine lv_iconst (v := 0) C.1 C.2.1 dX7_remove_38 (by decide) ?_
      refine lv_istore_n (lv' := [(2, .int 0), (0, .ref a0), (1, .int a1)]) C.1 C.2.1 dX7_remove_39 rfl hl (by decide) rfl (fun ls hl => ?_)
      refine lv_iconst (v := 0) C.1 C.2.1 dX7_remove_40 (by decide) ?_
      refine lv_istore_n (lv' := [(3, .int 0), (2, .int 0), (0, .ref a0), (1, .int a1)]) C.1 C.2.1 dX7_remove_41 rfl hl (by decide) rfl (fun ls hl => ?_)
      exact J42  n (0) (0) r15 _ _ _ hP hS (lv_sub hl [2, 3, 1, 0] rfl) h
    · refine lv_iconst (v := 0) C.1 C.2.1 dX7_remove_32 (by decide) ?_
      have e := Option.some.inj h
      exact q_i C hlk hP hS hr (by rw [← e]) (by rw [← e]) dX7_remove_33
  unfold fX7_remove at h
  refine lv_aload_n C.1 C.2.1 dX7_remove_0 rfl (lv_at hl 0 rfl) ?_
  refine lv_aload_n C.1 C.2.1 dX7_remove_1 rfl (lv_at hl 0 rfl) ?_
  refine lv_iload_n C.1 C.2.1 dX7_remove_2 rfl (lv_at hl 1 rfl) ?_
  obtain ⟨r16, hc, h⟩ := bS h
  refine r_V1 C hK hX hb hP hS hl.1 (kX7_isNode (hT) hc) hT cl_7 wd_1190 mo_X7_isNode wd_1192 wd_23 ⟨Nat.le_of_ble_eq_true rfl, Nat.le_of_ble_eq_true rfl⟩ ⟨Nat.le_of_ble_eq_true rfl, Nat.le_of_ble_eq_true rfl⟩ rfl (rest := [.ref a0]) rfl (Nat.le_of_ble_eq_true rfl) dX7_remove_3 (fun H locs hP hS => ?_)
  refine b_ne (tgt := 13) C dX7_remove_6 (by decide) h (fun h => ?_) (fun h => ?_)
  · refine lv_iconst (v := 1) C.1 C.2.1 dX7_remove_9 (by decide) ?_
    refine lv_goto (tgt := 22) C.1 C.2.1 dX7_remove_10 (by decide) ?_
    exact J22 (M) (a0) (1) _ _ _ hP hS (lv_sub hl [0, 1] rfl) h
  · refine lv_iload_n C.1 C.2.1 dX7_remove_13 rfl (lv_at hl 1 rfl) ?_
    refine b_ne (tgt := 21) C dX7_remove_14 (by decide) h (fun h => ?_) (fun h => ?_)
    · refine lv_iconst (v := 2) C.1 C.2.1 dX7_remove_17 (by decide) ?_
      refine lv_goto (tgt := 22) C.1 C.2.1 dX7_remove_18 (by decide) ?_
      exact J22 (M) (a0) (2) _ _ _ hP hS (lv_sub hl [0, 1] rfl) h
    · refine lv_iconst (v := 0) C.1 C.2.1 dX7_remove_21 (by decide) ?_
      exact J22 (M) (a0) (0) _ _ _ hP hS (lv_sub hl [0, 1] rfl) h
theorem dX7_move_0 : decode cX7_move 0 = .ok (.aload_n 0, 1) := by decide +kernel
theorem dX7_move_1 : decode cX7_move 1 = .ok (.aload_n 0, 1) := by decide +kernel
theorem dX7_move_2 : decode cX7_move 2 = .ok (.iload_n 1, 1) := by decide +kernel
theorem dX7_move_3 : decode cX7_move 3 = .ok (.invokevirtual 123, 3) := by decide +kernel
theorem dX7_move_6 : decode cX7_move 6 = .ok (.ifCond .eq 11, 3) := by decide +kernel
theorem dX7_move_9 : decode cX7_move 9 = .ok (.aload_n 0, 1) := by decide +kernel
theorem dX7_move_10 : decode cX7_move 10 = .ok (.iload_n 2, 1) := by decide +kernel
theorem dX7_move_11 : decode cX7_move 11 = .ok (.invokevirtual 123, 3) := by decide +kernel
theorem dX7_move_14 : decode cX7_move 14 = .ok (.ifCond .ne 7, 3) := by decide +kernel
theorem dX7_move_17 : decode cX7_move 17 = .ok (.iconst 1, 1) := by decide +kernel
theorem dX7_move_18 : decode cX7_move 18 = .ok (.goto 4, 3) := by decide +kernel
theorem dX7_move_21 : decode cX7_move 21 = .ok (.iconst 0, 1) := by decide +kernel
theorem dX7_move_22 : decode cX7_move 22 = .ok (.putfield 29, 3) := by decide +kernel
theorem dX7_move_25 : decode cX7_move 25 = .ok (.aload_n 0, 1) := by decide +kernel
theorem dX7_move_26 : decode cX7_move 26 = .ok (.getfield 29, 3) := by decide +kernel
theorem dX7_move_29 : decode cX7_move 29 = .ok (.ifCond .eq 5, 3) := by decide +kernel
theorem dX7_move_32 : decode cX7_move 32 = .ok (.iconst 0, 1) := by decide +kernel
theorem dX7_move_33 : decode cX7_move 33 = .ok (.ireturn, 1) := by decide +kernel
theorem dX7_move_34 : decode cX7_move 34 = .ok (.iload_n 1, 1) := by decide +kernel
theorem dX7_move_35 : decode cX7_move 35 = .ok (.ifCond .eq 17, 3) := by decide +kernel
theorem dX7_move_38 : decode cX7_move 38 = .ok (.iload_n 2, 1) := by decide +kernel
theorem dX7_move_39 : decode cX7_move 39 = .ok (.iload_n 1, 1) := by decide +kernel
theorem dX7_move_40 : decode cX7_move 40 = .ok (.if_icmp .eq 12, 3) := by decide +kernel
theorem dX7_move_43 : decode cX7_move 43 = .ok (.aload_n 0, 1) := by decide +kernel
theorem dX7_move_44 : decode cX7_move 44 = .ok (.iload_n 2, 1) := by decide +kernel
theorem dX7_move_45 : decode cX7_move 45 = .ok (.iload_n 1, 1) := by decide +kernel
theorem dX7_move_46 : decode cX7_move 46 = .ok (.invokevirtual 139, 3) := by decide +kernel
theorem dX7_move_49 : decode cX7_move 49 = .ok (.ifCond .eq 10, 3) := by decide +kernel
theorem dX7_move_52 : decode cX7_move 52 = .ok (.aload_n 0, 1) := by decide +kernel
theorem dX7_move_53 : decode cX7_move 53 = .ok (.iconst 2, 1) := by decide +kernel
theorem dX7_move_54 : decode cX7_move 54 = .ok (.putfield 29, 3) := by decide +kernel
theorem dX7_move_57 : decode cX7_move 57 = .ok (.iconst 0, 1) := by decide +kernel
theorem dX7_move_58 : decode cX7_move 58 = .ok (.ireturn, 1) := by decide +kernel
theorem dX7_move_59 : decode cX7_move 59 = .ok (.aload_n 0, 1) := by decide +kernel
theorem dX7_move_60 : decode cX7_move 60 = .ok (.iload_n 2, 1) := by decide +kernel
theorem dX7_move_61 : decode cX7_move 61 = .ok (.invokevirtual 126, 3) := by decide +kernel
theorem dX7_move_64 : decode cX7_move 64 = .ok (.aload_n 0, 1) := by decide +kernel
theorem dX7_move_65 : decode cX7_move 65 = .ok (.iload_n 1, 1) := by decide +kernel
theorem dX7_move_66 : decode cX7_move 66 = .ok (.iconst 1, 1) := by decide +kernel
theorem dX7_move_67 : decode cX7_move 67 = .ok (.invokevirtual 40, 3) := by decide +kernel
theorem dX7_move_70 : decode cX7_move 70 = .ok (.iload_n 2, 1) := by decide +kernel
theorem dX7_move_71 : decode cX7_move 71 = .ok (.if_icmp .ne 7, 3) := by decide +kernel
theorem dX7_move_74 : decode cX7_move 74 = .ok (.iconst 1, 1) := by decide +kernel
theorem dX7_move_75 : decode cX7_move 75 = .ok (.goto 4, 3) := by decide +kernel
theorem dX7_move_78 : decode cX7_move 78 = .ok (.iconst 0, 1) := by decide +kernel
theorem dX7_move_79 : decode cX7_move 79 = .ok (.isub, 1) := by decide +kernel
theorem dX7_move_80 : decode cX7_move 80 = .ok (.istore 4, 2) := by decide +kernel
theorem dX7_move_82 : decode cX7_move 82 = .ok (.iload_n 3, 1) := by decide +kernel
theorem dX7_move_83 : decode cX7_move 83 = .ok (.iconst 0, 1) := by decide +kernel
theorem dX7_move_84 : decode cX7_move 84 = .ok (.iload 4, 2) := by decide +kernel
theorem dX7_move_86 : decode cX7_move 86 = .ok (.invokestatic 36, 3) := by decide +kernel
theorem dX7_move_89 : decode cX7_move 89 = .ok (.ifCond .ne 10, 3) := by decide +kernel
theorem dX7_move_92 : decode cX7_move 92 = .ok (.aload_n 0, 1) := by decide +kernel
theorem dX7_move_93 : decode cX7_move 93 = .ok (.iconst 3, 1) := by decide +kernel
theorem dX7_move_94 : decode cX7_move 94 = .ok (.putfield 29, 3) := by decide +kernel
theorem dX7_move_97 : decode cX7_move 97 = .ok (.iconst 0, 1) := by decide +kernel
theorem dX7_move_98 : decode cX7_move 98 = .ok (.ireturn, 1) := by decide +kernel
theorem dX7_move_99 : decode cX7_move 99 = .ok (.aload_n 0, 1) := by decide +kernel
theorem dX7_move_100 : decode cX7_move 100 = .ok (.invokevirtual 133, 3) := by decide +kernel
theorem dX7_move_103 : decode cX7_move 103 = .ok (.aload_n 0, 1) := by decide +kernel
theorem dX7_move_104 : decode cX7_move 104 = .ok (.iload_n 1, 1) := by decide +kernel
theorem dX7_move_105 : decode cX7_move 105 = .ok (.iconst 1, 1) := by decide +kernel
theorem dX7_move_106 : decode cX7_move 106 = .ok (.invokevirtual 40, 3) := by decide +kernel
theorem dX7_move_109 : decode cX7_move 109 = .ok (.istore 5, 2) := by decide +kernel
theorem dX7_move_111 : decode cX7_move 111 = .ok (.aload_n 0, 1) := by decide +kernel
theorem dX7_move_112 : decode cX7_move 112 = .ok (.iload_n 1, 1) := by decide +kernel
theorem dX7_move_113 : decode cX7_move 113 = .ok (.invokevirtual 143, 3) := by decide +kernel
theorem dX7_move_116 : decode cX7_move 116 = .ok (.aload_n 0, 1) := by decide +kernel
theorem dX7_move_117 : decode cX7_move 117 = .ok (.iload_n 1, 1) := by decide +kernel
theorem dX7_move_118 : decode cX7_move 118 = .ok (.iload_n 2, 1) := by decide +kernel
theorem dX7_move_119 : decode cX7_move 119 = .ok (.iload_n 3, 1) := by decide +kernel
theorem dX7_move_120 : decode cX7_move 120 = .ok (.invokevirtual 136, 3) := by decide +kernel
theorem dX7_move_123 : decode cX7_move 123 = .ok (.iload 5, 2) := by decide +kernel
theorem dX7_move_125 : decode cX7_move 125 = .ok (.ireturn, 1) := by decide +kernel
abbrev rmX7_move : Room := { frames := 3, cells := 0, slots := 0, locals := 87 }
noncomputable def fX7_move_79 (n : Nat) (Sh : Sp) (a0 : Nat) (a1 : Int32) (a2 : Int32) (a3 : Int32) (M : Mm) (t0 : Int32) (t1 : Int32) : Option (Int32 × Mm) :=
  (fX7_in n Sh M a3 0 (t0 - t1)).bind fun r1 =>
  if r1 = 0 then
    qI M a0 5 3 fun M2 =>
    some (0, M2)
  else
    (fX7_keep n Sh M a0).bind fun r3 =>
    (fX7_of n Sh r3 a0 a1 1).bind fun r4 =>
    (fX7_detach n Sh r3 a0 a1).bind fun r5 =>
    (fX7_attach n Sh r5 a0 a1 a2 a3).bind fun r6 =>
    some (r4, r6)
noncomputable def fX7_move_52 (n : Nat) (Sh : Sp) (a0 : Nat) (a1 : Int32) (a2 : Int32) (a3 : Int32) (M : Mm) : Option (Int32 × Mm) :=
  qI M a0 5 2 fun M7 =>
  some (0, M7)
noncomputable def fX7_move_22 (n : Nat) (Sh : Sp) (a0 : Nat) (a1 : Int32) (a2 : Int32) (a3 : Int32) (M : Mm) (t0 : Nat) (t1 : Int32) : Option (Int32 × Mm) :=
  pI Sh M t0 7 5 t1 fun M8 =>
  tI M8 a0 5 fun x9 =>
  if x9 = 0 then
    if a1 = 0 then
      fX7_move_52 n Sh a0 a1 a2 a3 M8
    else
      if a2 = a1 then
        fX7_move_52 n Sh a0 a1 a2 a3 M8
      else
        (fX7_isBelow n Sh M8 a0 a2 a1).bind fun r10 =>
        if r10 = 0 then
          (fX7_childMany n Sh M8 a0 a2).bind fun r11 =>
          (fX7_of n Sh M8 a0 a1 1).bind fun r12 =>
          if r12 = a2 then
            fX7_move_79 n Sh a0 a1 a2 a3 M8 r11 1
          else
            fX7_move_79 n Sh a0 a1 a2 a3 M8 r11 0
        else
          fX7_move_52 n Sh a0 a1 a2 a3 M8
  else
    some (0, M8)
noncomputable def fX7_move_17 (n : Nat) (Sh : Sp) (a0 : Nat) (a1 : Int32) (a2 : Int32) (a3 : Int32) (M : Mm) (t0 : Nat) : Option (Int32 × Mm) :=
  fX7_move_22 n Sh a0 a1 a2 a3 M t0 1
noncomputable def fX7_move (n : Nat) (Sh : Sp) (M : Mm) (a0 : Nat) (a1 : Int32) (a2 : Int32) (a3 : Int32) : Option (Int32 × Mm) :=
  (fX7_isNode n Sh M a0 a1).bind fun r13 =>
  if r13 = 0 then
    fX7_move_17 n Sh a0 a1 a2 a3 M a0
  else
    (fX7_isNode n Sh M a0 a2).bind fun r14 =>
    if r14 = 0 then
      fX7_move_17 n Sh a0 a1 a2 a3 M a0
    else
      fX7_move_22 n Sh a0 a1 a2 a3 M a0 0
set_option maxRecDepth 100000 in
set_option maxHeartbeats 4000000 in
theorem kX7_move {l : Launch} {G : Gt} {n : Nat} {Sh : Sp} {M : Mm} {a0 : Nat} {a1 : Int32} {a2 : Int32} {a3 : Int32} (hT : Sh a0 = some (.inl 7)) {r : (Int32 × Mm)} (h : fX7_move n Sh M a0 a1 a2 a3 = some r) : Ct l yX7_move cX7_move 6 (some .int) rmX7_move G Sh M [.ref a0, .int a1, .int a2, .int a3] (some (.int r.1)) r.2 := by
  refine Ct.of (by decide) (Nat.le_of_ble_eq_true rfl) ?_
  intro p e s m args below meth c ls C hK hX hP hS hb hlk hr hl
  replace hl : lv_has ls 6 [(0, .ref a0), (1, .int a1), (2, .int a2), (3, .int a3)] := hl
  have J79 : ∀ (M : Mm) (t0 : Int32) (t1 : Int32) (H : Heap) (locs : List Loc) (ls : Array Slot), HM G Sh M H → SS G s s.heap.size H locs → lv_has ls 6 [(0, .ref a0), (1, .int a1), (2, .int a2), (3, .int a3)] → fX7_move_79 n Sh a0 a1 a2 a3 M t0 t1 = some r → W p l e rmX7_move s m args below meth c H locs 0 0 (MQ below (QG G Sh r.2 (some (.int r.1))) args s rmX7_move.cells rmX7_move.slots (AA G)) (F0 m 79 ls [.int t1, .int t0]) := by
    intro M t0 t1 H locs ls hP hS hl h
    unfold fX7_move_79 at h
    refine lv_isub C.1 C.2.1 dX7_move_79 ?_
    refine lv_istore (lv' := [(4, .int (t0 - t1)), (0, .ref a0), (1, .int a1), (2, .int a2), (3, .int a3)]) C.1 C.2.1 dX7_move_80 hl (by decide) rfl (fun ls hl => ?_)
    refine lv_iload_n C.1 C.2.1 dX7_move_82 rfl (lv_at hl 4 rfl) ?_
    refine lv_iconst (v := 0) C.1 C.2.1 dX7_move_83 (by decide) ?_
    refine lv_iload C.1 C.2.1 dX7_move_84 (lv_at hl 0 rfl) ?_
    obtain ⟨r1, hc, h⟩ := bS h
    refine r_S1 C hK hX hb hP hS hl.1 (kX7_in hc) wd_1194 mo_X7_in wd_1195 ⟨Nat.le_of_ble_eq_true rfl, Nat.le_of_ble_eq_true rfl⟩ ⟨Nat.le_of_ble_eq_true rfl, Nat.le_of_ble_eq_true rfl⟩ rfl (rest := []) rfl (Nat.le_of_ble_eq_true rfl) dX7_move_86 (fun H locs hP hS => ?_)
    refine b_ne (tgt := 99) C dX7_move_89 (by decide) h (fun h => ?_) (fun h => ?_)
    · refine lv_aload_n C.1 C.2.1 dX7_move_92 rfl (lv_at hl 1 rfl) ?_
      refine lv_iconst (v := 3) C.1 C.2.1 dX7_move_93 (by decide) ?_
      refine r_qI C hK hP hS hT cl_7 (k := 5) (by decide) wd_1149 rfl rfl (tyX7_ok 5 (by decide)) dX7_move_94 h (fun M2 H locs h hP hS => ?_)
      refine lv_iconst (v := 0) C.1 C.2.1 dX7_move_97 (by decide) ?_
      have e := Option.some.inj h
      exact q_i C hlk hP hS hr (by rw [← e]) (by rw [← e]) dX7_move_98
    · refine lv_aload_n C.1 C.2.1 dX7_move_99 rfl (lv_at hl 1 rfl) ?_
      obtain ⟨r3, hc, h⟩ := bS h
      refine r_V0 C hK hX hb hP hS hl.1 (kX7_keep (hT) hc) hT cl_7 wd_1209 mo_X7_keep wd_1211 wd_27 ⟨Nat.le_of_ble_eq_true rfl, Nat.le_of_ble_eq_true rfl⟩ ⟨Nat.le_of_ble_eq_true rfl, Nat.le_of_ble_eq_true rfl⟩ rfl (rest := []) rfl (Nat.le_of_ble_eq_true rfl) dX7_move_100 (fun H locs hP hS => ?_)
      refine lv_aload_n C.1 C.2.1 dX7_move_103 rfl (lv_at hl 1 rfl) ?_
      refine lv_iload_n C.1 C.2.1 dX7_move_104 rfl (lv_at hl 2 rfl) ?_
      refine lv_iconst (v := 1) C.1 C.2.1 dX7_move_105 (by decide) ?_
      obtain ⟨r4, hc, h⟩ := bS h
      refine r_V1 C hK hX hb hP hS hl.1 (kX7_of (hT) hc) hT cl_7 wd_1197 mo_X7_of wd_1199 wd_24 ⟨Nat.le_of_ble_eq_true rfl, Nat.le_of_ble_eq_true rfl⟩ ⟨Nat.le_of_ble_eq_true rfl, Nat.le_of_ble_eq_true rfl⟩ rfl (rest := []) rfl (Nat.le_of_ble_eq_true rfl) dX7_move_106 (fun H locs hP hS => ?_)
      refine lv_istore (lv' := [(5, .int r4), (4, .int (t0 - t1)), (0, .ref a0), (1, .int a1), (2, .int a2), (3, .int a3)]) C.1 C.2.1 dX7_move_109 hl (by decide) rfl (fun ls hl => ?_)
      refine lv_aload_n C.1 C.2.1 dX7_move_111 rfl (lv_at hl 2 rfl) ?_
      refine lv_iload_n C.1 C.2.1 dX7_move_112 rfl (lv_at hl 3 rfl) ?_
      obtain ⟨r5, hc, h⟩ := bS h
      refine r_V0 C hK hX hb hP hS hl.1 (kX7_detach (hT) hc) hT cl_7 wd_1229 mo_X7_detach wd_1231 wd_31 ⟨Nat.le_of_ble_eq_true rfl, Nat.le_of_ble_eq_true rfl⟩ ⟨Nat.le_of_ble_eq_true rfl, Nat.le_of_ble_eq_true rfl⟩ rfl (rest := []) rfl (Nat.le_of_ble_eq_true rfl) dX7_move_113 (fun H locs hP hS => ?_)
      refine lv_aload_n C.1 C.2.1 dX7_move_116 rfl (lv_at hl 2 rfl) ?_
      refine lv_iload_n C.1 C.2.1 dX7_move_117 rfl (lv_at hl 3 rfl) ?_
      refine lv_iload_n C.1 C.2.1 dX7_move_118 rfl (lv_at hl 4 rfl) ?_
      refine lv_iload_n C.1 C.2.1 dX7_move_119 rfl (lv_at hl 5 rfl) ?_
      obtain ⟨r6, hc, h⟩ := bS h
      refine r_V0 C hK hX hb hP hS hl.1 (kX7_attach (hT) hc) hT cl_7 wd_1217 mo_X7_attach wd_1219 wd_29 ⟨Nat.le_of_ble_eq_true rfl, Nat.le_of_ble_eq_true rfl⟩ ⟨Nat.le_of_ble_eq_true rfl, Nat.le_of_ble_eq_true rfl⟩ rfl (rest := []) rfl (Nat.le_of_ble_eq_true rfl) dX7_move_120 (fun H locs hP hS => ?_)
      refine lv_iload C.1 C.2.1 dX7_move_123 (lv_at hl 0 rfl) ?_
      have e := Option.some.inj h
      exact q_i C hlk hP hS hr (by rw [← e]) (by rw [← e]) dX7_move_125
  have J52 : ∀ (M : Mm) (H : Heap) (locs : List Loc) (ls : Array Slot), HM G Sh M H → SS G s s.heap.size H locs → lv_has ls 6 [(0, .ref a0), (1, .int a1), (2, .int a2), (3, .int a3)] → fX7_move_52 n Sh a0 a1 a2 a3 M = some r → W p l e rmX7_move s m args below meth c H locs 0 0 (MQ below (QG G Sh r.2 (some (.int r.1))) args s rmX7_move.cells rmX7_move.slots (AA G)) (F0 m 52 ls []) := by
    intro M H locs ls hP hS hl h
    unfold fX7_move_52 at h
    refine lv_aload_n C.1 C.2.1 dX7_move_52 rfl (lv_at hl 0 rfl) ?_
    refine lv_iconst (v := 2) C.1 C.2.1 dX7_move_53 (by decide) ?_
    refine r_qI C hK hP hS hT cl_7 (k := 5) (by decide) wd_1149 rfl rfl (tyX7_ok 5 (by decide)) dX7_move_54 h (fun M7 H locs h hP hS => ?_)
    refine lv_iconst (v := 0) C.1 C.2.1 dX7_move_57 (by decide) ?_
    have e := Option.some.inj h
    exact q_i C hlk hP hS hr (by rw [← e]) (by rw [← e]) dX7_move_58
  have J22 : ∀ (M : Mm) (t0 : Nat) (t1 : Int32) (H : Heap) (locs : List Loc) (ls : Array Slot), HM G Sh M H → SS G s s.heap.size H locs → lv_has ls 6 [(0, .ref a0), (1, .int a1), (2, .int a2), (3, .int a3)] → fX7_move_22 n Sh a0 a1 a2 a3 M t0 t1 = some r → W p l e rmX7_move s m args below meth c H locs 0 0 (MQ below (QG G Sh r.2 (some (.int r.1))) args s rmX7_move.cells rmX7_move.slots (AA G)) (F0 m 22 ls [.int t1, .ref t0]) := by
    intro M t0 t1 H locs ls hP hS hl h
    unfold fX7_move_22 at h
    refine r_pI C hK hP hS cl_7 (k := 5) (by decide) wd_1149 rfl rfl (tyX7_ok 5 (by decide)) dX7_move_22 h (fun M8 H locs h hP hS => ?_)
    refine lv_aload_n C.1 C.2.1 dX7_move_25 rfl (lv_at hl 0 rfl) ?_
    refine r_tI C hK hP hT cl_7 (k := 5) (by decide) wd_1149 rfl dX7_move_26 h (fun x9 h => ?_)
    refine b_eq (tgt := 34) C dX7_move_29 (by decide) h (fun h => ?_) (fun h => ?_)
    · refine lv_iload_n C.1 C.2.1 dX7_move_34 rfl (lv_at hl 1 rfl) ?_
      refine b_eq (tgt := 52) C dX7_move_35 (by decide) h (fun h => ?_) (fun h => ?_)
      · exact J52 (M8) _ _ _ hP hS (lv_sub hl [0, 1, 2, 3] rfl) h
      · refine lv_iload_n C.1 C.2.1 dX7_move_38 rfl (lv_at hl 2 rfl) ?_
        refine lv_iload_n C.1 C.2.1 dX7_move_39 rfl (lv_at hl 1 rfl) ?_
        refine b_ieq (tgt := 52) C dX7_move_40 (by decide) h (fun h => ?_) (fun h => ?_)
        · exact J52 (M8) _ _ _ hP hS (lv_sub hl [0, 1, 2, 3] rfl) h
        · refine lv_aload_n C.1 C.2.1 dX7_move_43 rfl (lv_at hl 0 rfl) ?_
          refine lv_iload_n C.1 C.2.1 dX7_move_44 rfl (lv_at hl 2 rfl) ?_
          refine lv_iload_n C.1 C.2.1 dX7_move_45 rfl (lv_at hl 1 rfl) ?_
          obtain ⟨r10, hc, h⟩ := bS h
          refine r_V1 C hK hX hb hP hS hl.1 (kX7_isBelow (hT) hc) hT cl_7 wd_1225 mo_X7_isBelow wd_1227 wd_30 ⟨Nat.le_of_ble_eq_true rfl, Nat.le_of_ble_eq_true rfl⟩ ⟨Nat.le_of_ble_eq_true rfl, Nat.le_of_ble_eq_true rfl⟩ rfl (rest := []) rfl (Nat.le_of_ble_eq_true rfl) dX7_move_46 (fun H locs hP hS => ?_)
          refine b_eq (tgt := 59) C dX7_move_49 (by decide) h (fun h => ?_) (fun h => ?_)
          · refine lv_aload_n C.1 C.2.1 dX7_move_59 rfl (lv_at hl 0 rfl) ?_
            refine lv_iload_n C.1 C.2.1 dX7_move_60 rfl (lv_at hl 2 rfl) ?_
            obtain ⟨r11, hc, h⟩ := bS h
            refine r_V1 C hK hX hb hP hS hl.1 (kX7_childMany (hT) hc) hT cl_7 wd_1201 mo_X7_childMany wd_1203 wd_25 ⟨Nat.le_of_ble_eq_true rfl, Nat.le_of_ble_eq_true rfl⟩ ⟨Nat.le_of_ble_eq_true rfl, Nat.le_of_ble_eq_true rfl⟩ rfl (rest := []) rfl (Nat.le_of_ble_eq_true rfl) dX7_move_61 (fun H locs hP hS => ?_)
            refine lv_aload_n C.1 C.2.1 dX7_move_64 rfl (lv_at hl 0 rfl) ?_
            refine lv_iload_n C.1 C.2.1 dX7_move_65 rfl (lv_at hl 1 rfl) ?_
            refine lv_iconst (v := 1) C.1 C.2.1 dX7_move_66 (by decide) ?_
            obtain ⟨r12, hc, h⟩ := bS h
            refine r_V1 C hK hX hb hP hS hl.1 (kX7_of (hT) hc) hT cl_7 wd_1197 mo_X7_of wd_1199 wd_24 ⟨Nat.le_of_ble_eq_true rfl, Nat.le_of_ble_eq_true rfl⟩ ⟨Nat.le_of_ble_eq_true rfl, Nat.le_of_ble_eq_true rfl⟩ rfl (rest := [.int r11]) rfl (Nat.le_of_ble_eq_true rfl) dX7_move_67 (fun H locs hP hS => ?_)
            refine lv_iload_n C.1 C.2.1 dX7_move_70 rfl (lv_at hl 2 rfl) ?_
            refine b_ine (tgt := 78) C dX7_move_71 (by decide) h (fun h => ?_) (fun h => ?_)
            · refine lv_iconst (v := 1) C.1 C.2.1 dX7_move_74 (by decide) ?_
              refine lv_goto (tgt := 79) C.1 C.2.1 dX7_move_75 (by decide) ?_
              exact J79 (M8) (r11) (1) _ _ _ hP hS (lv_sub hl [0, 1, 2, 3] rfl) h
            · refine lv_iconst (v := 0) C.1 C.2.1 dX7_move_78 (by decide) ?_
              exact J79 (M8) (r11) (0) _ _ _ hP hS (lv_sub hl [0, 1, 2, 3] rfl) h
          · exact J52 (M8) _ _ _ hP hS (lv_sub hl [0, 1, 2, 3] rfl) h
    · refine lv_iconst (v := 0) C.1 C.2.1 dX7_move_32 (by decide) ?_
      have e := Option.some.inj h
      exact q_i C hlk hP hS hr (by rw [← e]) (by rw [← e]) dX7_move_33
  have J17 : ∀ (M : Mm) (t0 : Nat) (H : Heap) (locs : List Loc) (ls : Array Slot), HM G Sh M H → SS G s s.heap.size H locs → lv_has ls 6 [(0, .ref a0), (1, .int a1), (2, .int a2), (3, .int a3)] → fX7_move_17 n Sh a0 a1 a2 a3 M t0 = some r → W p l e rmX7_move s m args below meth c H locs 0 0 (MQ below (QG G Sh r.2 (some (.int r.1))) args s rmX7_move.cells rmX7_move.slots (AA G)) (F0 m 17 ls [.ref t0]) := by
    intro M t0 H locs ls hP hS hl h
    unfold fX7_move_17 at h
    refine lv_iconst (v := 1) C.1 C.2.1 dX7_move_17 (by decide) ?_
    refine lv_goto (tgt := 22) C.1 C.2.1 dX7_move_18 (by decide) ?_
    exact J22 (M) (t0) (1) _ _ _ hP hS (lv_sub hl [0, 1, 2, 3] rfl) h
  unfold fX7_move at h
  refine lv_aload_n C.1 C.2.1 dX7_move_0 rfl (lv_at hl 0 rfl) ?_
  refine lv_aload_n C.1 C.2.1 dX7_move_1 rfl (lv_at hl 0 rfl) ?_
  refine lv_iload_n C.1 C.2.1 dX7_move_2 rfl (lv_at hl 1 rfl) ?_
  obtain ⟨r13, hc, h⟩ := bS h
  refine r_V1 C hK hX hb hP hS hl.1 (kX7_isNode (hT) hc) hT cl_7 wd_1190 mo_X7_isNode wd_1192 wd_23 ⟨Nat.le_of_ble_eq_true rfl, Nat.le_of_ble_eq_true rfl⟩ ⟨Nat.le_of_ble_eq_true rfl, Nat.le_of_ble_eq_true rfl⟩ rfl (rest := [.ref a0]) rfl (Nat.le_of_ble_eq_true rfl) dX7_move_3 (fun H locs hP hS => ?_)
  refine b_eq (tgt := 17) C dX7_move_6 (by decide) h (fun h => ?_) (fun h => ?_)
  · exact J17 (M) (a0) _ _ _ hP hS (lv_sub hl [0, 1, 2, 3] rfl) h
  · refine lv_aload_n C.1 C.2.1 dX7_move_9 rfl (lv_at hl 0 rfl) ?_
    refine lv_iload_n C.1 C.2.1 dX7_move_10 rfl (lv_at hl 2 rfl) ?_
    obtain ⟨r14, hc, h⟩ := bS h
    refine r_V1 C hK hX hb hP hS hl.1 (kX7_isNode (hT) hc) hT cl_7 wd_1190 mo_X7_isNode wd_1192 wd_23 ⟨Nat.le_of_ble_eq_true rfl, Nat.le_of_ble_eq_true rfl⟩ ⟨Nat.le_of_ble_eq_true rfl, Nat.le_of_ble_eq_true rfl⟩ rfl (rest := [.ref a0]) rfl (Nat.le_of_ble_eq_true rfl) dX7_move_11 (fun H locs hP hS => ?_)
    refine b_ne (tgt := 21) C dX7_move_14 (by decide) h (fun h => ?_) (fun h => ?_)
    · exact J17 (M) (a0) _ _ _ hP hS (lv_sub hl [0, 1, 2, 3] rfl) h
    · refine lv_iconst (v := 0) C.1 C.2.1 dX7_move_21 (by decide) ?_
      exact J22 (M) (a0) (0) _ _ _ hP hS (lv_sub hl [0, 1, 2, 3] rfl) h
theorem dX7_nodes_0 : decode cX7_nodes 0 = .ok (.aload_n 0, 1) := by decide +kernel
theorem dX7_nodes_1 : decode cX7_nodes 1 = .ok (.iconst 0, 1) := by decide +kernel
theorem dX7_nodes_2 : decode cX7_nodes 2 = .ok (.putfield 29, 3) := by decide +kernel
theorem dX7_nodes_5 : decode cX7_nodes 5 = .ok (.iconst 0, 1) := by decide +kernel
theorem dX7_nodes_6 : decode cX7_nodes 6 = .ok (.istore_n 1, 1) := by decide +kernel
theorem dX7_nodes_7 : decode cX7_nodes 7 = .ok (.iconst 0, 1) := by decide +kernel
theorem dX7_nodes_8 : decode cX7_nodes 8 = .ok (.istore_n 2, 1) := by decide +kernel
theorem dX7_nodes_9 : decode cX7_nodes 9 = .ok (.iload_n 2, 1) := by decide +kernel
theorem dX7_nodes_10 : decode cX7_nodes 10 = .ok (.bipush 24, 2) := by decide +kernel
theorem dX7_nodes_12 : decode cX7_nodes 12 = .ok (.if_icmp .ge 20, 3) := by decide +kernel
theorem dX7_nodes_15 : decode cX7_nodes 15 = .ok (.iload_n 1, 1) := by decide +kernel
theorem dX7_nodes_16 : decode cX7_nodes 16 = .ok (.aload_n 0, 1) := by decide +kernel
theorem dX7_nodes_17 : decode cX7_nodes 17 = .ok (.iload_n 2, 1) := by decide +kernel
theorem dX7_nodes_18 : decode cX7_nodes 18 = .ok (.iconst 0, 1) := by decide +kernel
theorem dX7_nodes_19 : decode cX7_nodes 19 = .ok (.invokevirtual 40, 3) := by decide +kernel
theorem dX7_nodes_22 : decode cX7_nodes 22 = .ok (.iload_n 2, 1) := by decide +kernel
theorem dX7_nodes_23 : decode cX7_nodes 23 = .ok (.ishl, 1) := by decide +kernel
theorem dX7_nodes_24 : decode cX7_nodes 24 = .ok (.ior, 1) := by decide +kernel
theorem dX7_nodes_25 : decode cX7_nodes 25 = .ok (.istore_n 1, 1) := by decide +kernel
theorem dX7_nodes_26 : decode cX7_nodes 26 = .ok (.iinc 2 1, 3) := by decide +kernel
theorem dX7_nodes_29 : decode cX7_nodes 29 = .ok (.goto (-20), 3) := by decide +kernel
theorem dX7_nodes_32 : decode cX7_nodes 32 = .ok (.iload_n 1, 1) := by decide +kernel
theorem dX7_nodes_33 : decode cX7_nodes 33 = .ok (.ireturn, 1) := by decide +kernel
abbrev rmX7_nodes : Room := { frames := 2, cells := 0, slots := 0, locals := 62 }
noncomputable def fX7_nodes_9b (n : Nat) (Sh : Sp) (a0 : Nat) (M : Mm) (v1 : Int32) (v2 : Int32) : Option ((Int32 × Int32) ⊕ (Int32 × Mm)) :=
  if v2 < 24 then
    (fX7_of n Sh M a0 v2 0).bind fun r1 =>
    some (Sum.inl ((v1 ||| (r1 <<< (v2 &&& 31))), (v2 + 1)))
  else
    some (Sum.inr (v1, M))
noncomputable def fX7_nodes_9 (n : Nat) (Sh : Sp) (a0 : Nat) (M : Mm) (v1 : Int32) (v2 : Int32) : Option (Int32 × Mm) :=
  iter n (fun s => fX7_nodes_9b n Sh a0 M s.1 s.2) (v1, v2)
noncomputable def fX7_nodes (n : Nat) (Sh : Sp) (M : Mm) (a0 : Nat) : Option (Int32 × Mm) :=
  qI M a0 5 0 fun M2 =>
  fX7_nodes_9 n Sh a0 M2 0 0
set_option maxRecDepth 100000 in
set_option maxHeartbeats 4000000 in
theorem kX7_nodes {l : Launch} {G : Gt} {n : Nat} {Sh : Sp} {M : Mm} {a0 : Nat} (hT : Sh a0 = some (.inl 7)) {r : (Int32 × Mm)} (h : fX7_nodes n Sh M a0 = some r) : Ct l yX7_nodes cX7_nodes 3 (some .int) rmX7_nodes G Sh M [.ref a0] (some (.int r.1)) r.2 := by
  refine Ct.of (by decide) (Nat.le_of_ble_eq_true rfl) ?_
  intro p e s m args below meth c ls C hK hX hP hS hb hlk hr hl
  replace hl : lv_has ls 3 [(0, .ref a0)] := hl
  have J9 : ∀ (M : Mm), ∀ (k : Nat) (v1 : Int32) (v2 : Int32) (H : Heap) (locs : List Loc) (ls : Array Slot), HM G Sh M H → SS G s s.heap.size H locs → lv_has ls 3 [(0, .ref a0), (1, .int v1), (2, .int v2)] → iter k (fun s => fX7_nodes_9b n Sh a0 M s.1 s.2) (v1, v2) = some r → W p l e rmX7_nodes s m args below meth c H locs 0 0 (MQ below (QG G Sh r.2 (some (.int r.1))) args s rmX7_nodes.cells rmX7_nodes.slots (AA G)) (F0 m 9 ls []) := by
    intro M k
    induction k with
    | zero => intro v1 v2 H locs ls hP hS hl h; exact (iter_0 h).elim
    | succ k ih1 =>
      intro v1 v2 H locs ls hP hS hl h
      obtain ⟨z1, h, hz1⟩ := iter_some h
      replace h : fX7_nodes_9b n Sh a0 M v1 v2 = some z1 := h
      unfold fX7_nodes_9b at h
      refine lv_iload_n C.1 C.2.1 dX7_nodes_9 rfl (lv_at hl 2 rfl) ?_
      refine lv_bipush (v := 24) C.1 C.2.1 dX7_nodes_10 (by decide) ?_
      refine b_ige (tgt := 32) C dX7_nodes_12 (by decide) h (fun h => ?_) (fun h => ?_)
      · refine lv_iload_n C.1 C.2.1 dX7_nodes_15 rfl (lv_at hl 1 rfl) ?_
        refine lv_aload_n C.1 C.2.1 dX7_nodes_16 rfl (lv_at hl 0 rfl) ?_
        refine lv_iload_n C.1 C.2.1 dX7_nodes_17 rfl (lv_at hl 2 rfl) ?_
        refine lv_iconst (v := 0) C.1 C.2.1 dX7_nodes_18 (by decide) ?_
        obtain ⟨r1, hc, h⟩ := bS h
        refine r_V1 C hK hX hb hP hS hl.1 (kX7_of (hT) hc) hT cl_7 wd_1197 mo_X7_of wd_1199 wd_24 ⟨Nat.le_of_ble_eq_true rfl, Nat.le_of_ble_eq_true rfl⟩ ⟨Nat.le_of_ble_eq_true rfl, Nat.le_of_ble_eq_true rfl⟩ rfl (rest := [.int v1]) rfl (Nat.le_of_ble_eq_true rfl) dX7_nodes_19 (fun H locs hP hS => ?_)
        refine lv_iload_n C.1 C.2.1 dX7_nodes_22 rfl (lv_at hl 2 rfl) ?_
        refine lv_ishl C.1 C.2.1 dX7_nodes_23 ?_
        refine lv_ior C.1 C.2.1 dX7_nodes_24 ?_
        refine lv_istore_n (lv' := [(1, .int (v1 ||| (r1 <<< (v2 &&& 31)))), (0, .ref a0), (2, .int v2)]) C.1 C.2.1 dX7_nodes_25 rfl hl (by decide) rfl (fun ls hl => ?_)
        refine lv_iinc (v := (v2 + 1)) (lv' := [(2, .int (v2 + 1)), (1, .int (v1 ||| (r1 <<< (v2 &&& 31)))), (0, .ref a0)]) C.1 C.2.1 dX7_nodes_26 hl (k := 2) rfl rfl (by decide) rfl (fun ls hl => ?_)
        refine lv_goto (tgt := 9) C.1 C.2.1 dX7_nodes_29 (by decide) ?_
        have e := Option.some.inj h
        rw [← e] at hz1
        exact ih1 ((v1 ||| (r1 <<< (v2 &&& 31)))) ((v2 + 1)) _ _ _ hP hS (lv_sub hl [2, 1, 0] rfl) (itK_inl hz1)
      · refine lv_iload_n C.1 C.2.1 dX7_nodes_32 rfl (lv_at hl 1 rfl) ?_
        have e := Option.some.inj h
        rw [← e] at hz1
        replace e := itK_inr hz1
        exact q_i C hlk hP hS hr (by rw [← e]) (by rw [← e]) dX7_nodes_33
  unfold fX7_nodes at h
  refine lv_aload_n C.1 C.2.1 dX7_nodes_0 rfl (lv_at hl 0 rfl) ?_
  refine lv_iconst (v := 0) C.1 C.2.1 dX7_nodes_1 (by decide) ?_
  refine r_qI C hK hP hS hT cl_7 (k := 5) (by decide) wd_1149 rfl rfl (tyX7_ok 5 (by decide)) dX7_nodes_2 h (fun M2 H locs h hP hS => ?_)
  refine lv_iconst (v := 0) C.1 C.2.1 dX7_nodes_5 (by decide) ?_
  refine lv_istore_n (lv' := [(1, .int 0), (0, .ref a0)]) C.1 C.2.1 dX7_nodes_6 rfl hl (by decide) rfl (fun ls hl => ?_)
  refine lv_iconst (v := 0) C.1 C.2.1 dX7_nodes_7 (by decide) ?_
  refine lv_istore_n (lv' := [(2, .int 0), (1, .int 0), (0, .ref a0)]) C.1 C.2.1 dX7_nodes_8 rfl hl (by decide) rfl (fun ls hl => ?_)
  exact J9 (M2) n (0) (0) _ _ _ hP hS (lv_sub hl [2, 1, 0] rfl) h
theorem dX7_infoOf_0 : decode cX7_infoOf 0 = .ok (.iload_n 2, 1) := by decide +kernel
theorem dX7_infoOf_1 : decode cX7_infoOf 1 = .ok (.tableswitch 169 0 14 #[75, 82, 89, 96, 102, 110, 118, 169, 169, 169, 169, 169, 125, 141, 155], 75) := by decide +kernel
theorem dX7_infoOf_76 : decode cX7_infoOf 76 = .ok (.aload_n 0, 1) := by decide +kernel
theorem dX7_infoOf_77 : decode cX7_infoOf 77 = .ok (.iload_n 1, 1) := by decide +kernel
theorem dX7_infoOf_78 : decode cX7_infoOf 78 = .ok (.iconst 3, 1) := by decide +kernel
theorem dX7_infoOf_79 : decode cX7_infoOf 79 = .ok (.invokevirtual 40, 3) := by decide +kernel
theorem dX7_infoOf_82 : decode cX7_infoOf 82 = .ok (.ireturn, 1) := by decide +kernel
theorem dX7_infoOf_83 : decode cX7_infoOf 83 = .ok (.aload_n 0, 1) := by decide +kernel
theorem dX7_infoOf_84 : decode cX7_infoOf 84 = .ok (.iload_n 1, 1) := by decide +kernel
theorem dX7_infoOf_85 : decode cX7_infoOf 85 = .ok (.iconst 1, 1) := by decide +kernel
theorem dX7_infoOf_86 : decode cX7_infoOf 86 = .ok (.invokevirtual 40, 3) := by decide +kernel
theorem dX7_infoOf_89 : decode cX7_infoOf 89 = .ok (.ireturn, 1) := by decide +kernel
theorem dX7_infoOf_90 : decode cX7_infoOf 90 = .ok (.aload_n 0, 1) := by decide +kernel
theorem dX7_infoOf_91 : decode cX7_infoOf 91 = .ok (.iload_n 1, 1) := by decide +kernel
theorem dX7_infoOf_92 : decode cX7_infoOf 92 = .ok (.iconst 2, 1) := by decide +kernel
theorem dX7_infoOf_93 : decode cX7_infoOf 93 = .ok (.invokevirtual 40, 3) := by decide +kernel
theorem dX7_infoOf_96 : decode cX7_infoOf 96 = .ok (.ireturn, 1) := by decide +kernel
theorem dX7_infoOf_97 : decode cX7_infoOf 97 = .ok (.aload_n 0, 1) := by decide +kernel
theorem dX7_infoOf_98 : decode cX7_infoOf 98 = .ok (.iload_n 1, 1) := by decide +kernel
theorem dX7_infoOf_99 : decode cX7_infoOf 99 = .ok (.invokevirtual 126, 3) := by decide +kernel
theorem dX7_infoOf_102 : decode cX7_infoOf 102 = .ok (.ireturn, 1) := by decide +kernel
theorem dX7_infoOf_103 : decode cX7_infoOf 103 = .ok (.aload_n 0, 1) := by decide +kernel
theorem dX7_infoOf_104 : decode cX7_infoOf 104 = .ok (.iload_n 1, 1) := by decide +kernel
theorem dX7_infoOf_105 : decode cX7_infoOf 105 = .ok (.bipush 12, 2) := by decide +kernel
theorem dX7_infoOf_107 : decode cX7_infoOf 107 = .ok (.invokevirtual 40, 3) := by decide +kernel
theorem dX7_infoOf_110 : decode cX7_infoOf 110 = .ok (.ireturn, 1) := by decide +kernel
theorem dX7_infoOf_111 : decode cX7_infoOf 111 = .ok (.aload_n 0, 1) := by decide +kernel
theorem dX7_infoOf_112 : decode cX7_infoOf 112 = .ok (.iload_n 1, 1) := by decide +kernel
theorem dX7_infoOf_113 : decode cX7_infoOf 113 = .ok (.bipush 13, 2) := by decide +kernel
theorem dX7_infoOf_115 : decode cX7_infoOf 115 = .ok (.invokevirtual 40, 3) := by decide +kernel
theorem dX7_infoOf_118 : decode cX7_infoOf 118 = .ok (.ireturn, 1) := by decide +kernel
theorem dX7_infoOf_119 : decode cX7_infoOf 119 = .ok (.aload_n 0, 1) := by decide +kernel
theorem dX7_infoOf_120 : decode cX7_infoOf 120 = .ok (.iload_n 1, 1) := by decide +kernel
theorem dX7_infoOf_121 : decode cX7_infoOf 121 = .ok (.iconst 4, 1) := by decide +kernel
theorem dX7_infoOf_122 : decode cX7_infoOf 122 = .ok (.invokevirtual 40, 3) := by decide +kernel
theorem dX7_infoOf_125 : decode cX7_infoOf 125 = .ok (.ireturn, 1) := by decide +kernel
theorem dX7_infoOf_126 : decode cX7_infoOf 126 = .ok (.aload_n 0, 1) := by decide +kernel
theorem dX7_infoOf_127 : decode cX7_infoOf 127 = .ok (.iload_n 1, 1) := by decide +kernel
theorem dX7_infoOf_128 : decode cX7_infoOf 128 = .ok (.bipush 10, 2) := by decide +kernel
theorem dX7_infoOf_130 : decode cX7_infoOf 130 = .ok (.invokevirtual 40, 3) := by decide +kernel
theorem dX7_infoOf_133 : decode cX7_infoOf 133 = .ok (.ifCond .le 7, 3) := by decide +kernel
theorem dX7_infoOf_136 : decode cX7_infoOf 136 = .ok (.iconst 1, 1) := by decide +kernel
theorem dX7_infoOf_137 : decode cX7_infoOf 137 = .ok (.goto 4, 3) := by decide +kernel
theorem dX7_infoOf_140 : decode cX7_infoOf 140 = .ok (.iconst 0, 1) := by decide +kernel
theorem dX7_infoOf_141 : decode cX7_infoOf 141 = .ok (.ireturn, 1) := by decide +kernel
theorem dX7_infoOf_142 : decode cX7_infoOf 142 = .ok (.aload_n 0, 1) := by decide +kernel
theorem dX7_infoOf_143 : decode cX7_infoOf 143 = .ok (.iload_n 1, 1) := by decide +kernel
theorem dX7_infoOf_144 : decode cX7_infoOf 144 = .ok (.invokevirtual 50, 3) := by decide +kernel
theorem dX7_infoOf_147 : decode cX7_infoOf 147 = .ok (.ifCond .eq 7, 3) := by decide +kernel
theorem dX7_infoOf_150 : decode cX7_infoOf 150 = .ok (.iconst 1, 1) := by decide +kernel
theorem dX7_infoOf_151 : decode cX7_infoOf 151 = .ok (.goto 4, 3) := by decide +kernel
theorem dX7_infoOf_154 : decode cX7_infoOf 154 = .ok (.iconst 0, 1) := by decide +kernel
theorem dX7_infoOf_155 : decode cX7_infoOf 155 = .ok (.ireturn, 1) := by decide +kernel
theorem dX7_infoOf_156 : decode cX7_infoOf 156 = .ok (.aload_n 0, 1) := by decide +kernel
theorem dX7_infoOf_157 : decode cX7_infoOf 157 = .ok (.iload_n 1, 1) := by decide +kernel
theorem dX7_infoOf_158 : decode cX7_infoOf 158 = .ok (.invokevirtual 114, 3) := by decide +kernel
theorem dX7_infoOf_161 : decode cX7_infoOf 161 = .ok (.ifCond .eq 7, 3) := by decide +kernel
theorem dX7_infoOf_164 : decode cX7_infoOf 164 = .ok (.iconst 1, 1) := by decide +kernel
theorem dX7_infoOf_165 : decode cX7_infoOf 165 = .ok (.goto 4, 3) := by decide +kernel
theorem dX7_infoOf_168 : decode cX7_infoOf 168 = .ok (.iconst 0, 1) := by decide +kernel
theorem dX7_infoOf_169 : decode cX7_infoOf 169 = .ok (.ireturn, 1) := by decide +kernel
theorem dX7_infoOf_170 : decode cX7_infoOf 170 = .ok (.aload_n 0, 1) := by decide +kernel
theorem dX7_infoOf_171 : decode cX7_infoOf 171 = .ok (.iload_n 1, 1) := by decide +kernel
theorem dX7_infoOf_172 : decode cX7_infoOf 172 = .ok (.iconst 5, 1) := by decide +kernel
theorem dX7_infoOf_173 : decode cX7_infoOf 173 = .ok (.iload_n 2, 1) := by decide +kernel
theorem dX7_infoOf_174 : decode cX7_infoOf 174 = .ok (.iadd, 1) := by decide +kernel
theorem dX7_infoOf_175 : decode cX7_infoOf 175 = .ok (.bipush 7, 2) := by decide +kernel
theorem dX7_infoOf_177 : decode cX7_infoOf 177 = .ok (.isub, 1) := by decide +kernel
theorem dX7_infoOf_178 : decode cX7_infoOf 178 = .ok (.invokevirtual 40, 3) := by decide +kernel
theorem dX7_infoOf_181 : decode cX7_infoOf 181 = .ok (.ireturn, 1) := by decide +kernel
abbrev rmX7_infoOf : Room := { frames := 4, cells := 0, slots := 0, locals := 106 }
noncomputable def fX7_infoOf (n : Nat) (Sh : Sp) (M : Mm) (a0 : Nat) (a1 : Int32) (a2 : Int32) : Option Int32 :=
  if a2 = 0 then
    (fX7_of n Sh M a0 a1 3).bind fun r1 =>
    some r1
  else if a2 = 1 then
    (fX7_of n Sh M a0 a1 1).bind fun r2 =>
    some r2
  else if a2 = 2 then
    (fX7_of n Sh M a0 a1 2).bind fun r3 =>
    some r3
  else if a2 = 3 then
    (fX7_childMany n Sh M a0 a1).bind fun r4 =>
    some r4
  else if a2 = 4 then
    (fX7_of n Sh M a0 a1 12).bind fun r5 =>
    some r5
  else if a2 = 5 then
    (fX7_of n Sh M a0 a1 13).bind fun r6 =>
    some r6
  else if a2 = 6 then
    (fX7_of n Sh M a0 a1 4).bind fun r7 =>
    some r7
  else if a2 = 7 then
    (fX7_of n Sh M a0 a1 ((5 + a2) - 7)).bind fun r8 =>
    some r8
  else if a2 = 8 then
    (fX7_of n Sh M a0 a1 ((5 + a2) - 7)).bind fun r9 =>
    some r9
  else if a2 = 9 then
    (fX7_of n Sh M a0 a1 ((5 + a2) - 7)).bind fun r10 =>
    some r10
  else if a2 = 10 then
    (fX7_of n Sh M a0 a1 ((5 + a2) - 7)).bind fun r11 =>
    some r11
  else if a2 = 11 then
    (fX7_of n Sh M a0 a1 ((5 + a2) - 7)).bind fun r12 =>
    some r12
  else if a2 = 12 then
    (fX7_of n Sh M a0 a1 10).bind fun r13 =>
    if r13 ≤ 0 then
      some 0
    else
      some 1
  else if a2 = 13 then
    (fX7_isOut n Sh M a0 a1).bind fun r14 =>
    if r14 = 0 then
      some 0
    else
      some 1
  else if a2 = 14 then
    (fX7_isShown n Sh M a0 a1).bind fun r15 =>
    if r15 = 0 then
      some 0
    else
      some 1
  else
    (fX7_of n Sh M a0 a1 ((5 + a2) - 7)).bind fun r16 =>
    some r16
set_option maxRecDepth 100000 in
set_option maxHeartbeats 4000000 in
theorem kX7_infoOf {l : Launch} {G : Gt} {n : Nat} {Sh : Sp} {M : Mm} {a0 : Nat} {a1 : Int32} {a2 : Int32} (hT : Sh a0 = some (.inl 7)) {r : Int32} (h : fX7_infoOf n Sh M a0 a1 a2 = some r) : Ct l yX7_infoOf cX7_infoOf 3 (some .int) rmX7_infoOf G Sh M [.ref a0, .int a1, .int a2] (some (.int r)) M := by
  refine Ct.of (by decide) (Nat.le_of_ble_eq_true rfl) ?_
  intro p e s m args below meth c ls C hK hX hP hS hb hlk hr hl
  replace hl : lv_has ls 3 [(0, .ref a0), (1, .int a1), (2, .int a2)] := hl
  unfold fX7_infoOf at h
  refine lv_iload_n C.1 C.2.1 dX7_infoOf_0 rfl (lv_at hl 2 rfl) ?_
  by_cases q0 : a2 = 0
  · rw [if_pos q0] at h
    refine lv_tableIn (off := 75) (tgt := 76) C.1 C.2.1 dX7_infoOf_1 (by rw [q0]; decide) (by rw [q0]; decide) (by rw [q0]; decide) (by decide) ?_
    refine lv_aload_n C.1 C.2.1 dX7_infoOf_76 rfl (lv_at hl 0 rfl) ?_
    refine lv_iload_n C.1 C.2.1 dX7_infoOf_77 rfl (lv_at hl 1 rfl) ?_
    refine lv_iconst (v := 3) C.1 C.2.1 dX7_infoOf_78 (by decide) ?_
    obtain ⟨r1, hc, h⟩ := bS h
    refine r_V1 C hK hX hb hP hS hl.1 (kX7_of (hT) hc) hT cl_7 wd_1197 mo_X7_of wd_1199 wd_24 ⟨Nat.le_of_ble_eq_true rfl, Nat.le_of_ble_eq_true rfl⟩ ⟨Nat.le_of_ble_eq_true rfl, Nat.le_of_ble_eq_true rfl⟩ rfl (rest := []) rfl (Nat.le_of_ble_eq_true rfl) dX7_infoOf_79 (fun H locs hP hS => ?_)
    have e := Option.some.inj h
    exact q_i C hlk hP hS hr (by rw [← e]) rfl dX7_infoOf_82
  rw [if_neg q0] at h
  by_cases q1 : a2 = 1
  · rw [if_pos q1] at h
    refine lv_tableIn (off := 82) (tgt := 83) C.1 C.2.1 dX7_infoOf_1 (by rw [q1]; decide) (by rw [q1]; decide) (by rw [q1]; decide) (by decide) ?_
    refine lv_aload_n C.1 C.2.1 dX7_infoOf_83 rfl (lv_at hl 0 rfl) ?_
    refine lv_iload_n C.1 C.2.1 dX7_infoOf_84 rfl (lv_at hl 1 rfl) ?_
    refine lv_iconst (v := 1) C.1 C.2.1 dX7_infoOf_85 (by decide) ?_
    obtain ⟨r2, hc, h⟩ := bS h
    refine r_V1 C hK hX hb hP hS hl.1 (kX7_of (hT) hc) hT cl_7 wd_1197 mo_X7_of wd_1199 wd_24 ⟨Nat.le_of_ble_eq_true rfl, Nat.le_of_ble_eq_true rfl⟩ ⟨Nat.le_of_ble_eq_true rfl, Nat.le_of_ble_eq_true rfl⟩ rfl (rest := []) rfl (Nat.le_of_ble_eq_true rfl) dX7_infoOf_86 (fun H locs hP hS => ?_)
    have e := Option.some.inj h
    exact q_i C hlk hP hS hr (by rw [← e]) rfl dX7_infoOf_89
  rw [if_neg q1] at h
  by_cases q2 : a2 = 2
  · rw [if_pos q2] at h
    refine lv_tableIn (off := 89) (tgt := 90) C.1 C.2.1 dX7_infoOf_1 (by rw [q2]; decide) (by rw [q2]; decide) (by rw [q2]; decide) (by decide) ?_
    refine lv_aload_n C.1 C.2.1 dX7_infoOf_90 rfl (lv_at hl 0 rfl) ?_
    refine lv_iload_n C.1 C.2.1 dX7_infoOf_91 rfl (lv_at hl 1 rfl) ?_
    refine lv_iconst (v := 2) C.1 C.2.1 dX7_infoOf_92 (by decide) ?_
    obtain ⟨r3, hc, h⟩ := bS h
    refine r_V1 C hK hX hb hP hS hl.1 (kX7_of (hT) hc) hT cl_7 wd_1197 mo_X7_of wd_1199 wd_24 ⟨Nat.le_of_ble_eq_true rfl, Nat.le_of_ble_eq_true rfl⟩ ⟨Nat.le_of_ble_eq_true rfl, Nat.le_of_ble_eq_true rfl⟩ rfl (rest := []) rfl (Nat.le_of_ble_eq_true rfl) dX7_infoOf_93 (fun H locs hP hS => ?_)
    have e := Option.some.inj h
    exact q_i C hlk hP hS hr (by rw [← e]) rfl dX7_infoOf_96
  rw [if_neg q2] at h
  by_cases q3 : a2 = 3
  · rw [if_pos q3] at h
    refine lv_tableIn (off := 96) (tgt := 97) C.1 C.2.1 dX7_infoOf_1 (by rw [q3]; decide) (by rw [q3]; decide) (by rw [q3]; decide) (by decide) ?_
    refine lv_aload_n C.1 C.2.1 dX7_infoOf_97 rfl (lv_at hl 0 rfl) ?_
    refine lv_iload_n C.1 C.2.1 dX7_infoOf_98 rfl (lv_at hl 1 rfl) ?_
    obtain ⟨r4, hc, h⟩ := bS h
    refine r_V1 C hK hX hb hP hS hl.1 (kX7_childMany (hT) hc) hT cl_7 wd_1201 mo_X7_childMany wd_1203 wd_25 ⟨Nat.le_of_ble_eq_true rfl, Nat.le_of_ble_eq_true rfl⟩ ⟨Nat.le_of_ble_eq_true rfl, Nat.le_of_ble_eq_true rfl⟩ rfl (rest := []) rfl (Nat.le_of_ble_eq_true rfl) dX7_infoOf_99 (fun H locs hP hS => ?_)
    have e := Option.some.inj h
    exact q_i C hlk hP hS hr (by rw [← e]) rfl dX7_infoOf_102
  rw [if_neg q3] at h
  by_cases q4 : a2 = 4
  · rw [if_pos q4] at h
    refine lv_tableIn (off := 102) (tgt := 103) C.1 C.2.1 dX7_infoOf_1 (by rw [q4]; decide) (by rw [q4]; decide) (by rw [q4]; decide) (by decide) ?_
    refine lv_aload_n C.1 C.2.1 dX7_infoOf_103 rfl (lv_at hl 0 rfl) ?_
    refine lv_iload_n C.1 C.2.1 dX7_infoOf_104 rfl (lv_at hl 1 rfl) ?_
    refine lv_bipush (v := 12) C.1 C.2.1 dX7_infoOf_105 (by decide) ?_
    obtain ⟨r5, hc, h⟩ := bS h
    refine r_V1 C hK hX hb hP hS hl.1 (kX7_of (hT) hc) hT cl_7 wd_1197 mo_X7_of wd_1199 wd_24 ⟨Nat.le_of_ble_eq_true rfl, Nat.le_of_ble_eq_true rfl⟩ ⟨Nat.le_of_ble_eq_true rfl, Nat.le_of_ble_eq_true rfl⟩ rfl (rest := []) rfl (Nat.le_of_ble_eq_true rfl) dX7_infoOf_107 (fun H locs hP hS => ?_)
    have e := Option.some.inj h
    exact q_i C hlk hP hS hr (by rw [← e]) rfl dX7_infoOf_110
  rw [if_neg q4] at h
  by_cases q5 : a2 = 5
  · rw [if_pos q5] at h
    refine lv_tableIn (off := 110) (tgt := 111) C.1 C.2.1 dX7_infoOf_1 (by rw [q5]; decide) (by rw [q5]; decide) (by rw [q5]; decide) (by decide) ?_
    refine lv_aload_n C.1 C.2.1 dX7_infoOf_111 rfl (lv_at hl 0 rfl) ?_
    refine lv_iload_n C.1 C.2.1 dX7_infoOf_112 rfl (lv_at hl 1 rfl) ?_
    refine lv_bipush (v := 13) C.1 C.2.1 dX7_infoOf_113 (by decide) ?_
    obtain ⟨r6, hc, h⟩ := bS h
    refine r_V1 C hK hX hb hP hS hl.1 (kX7_of (hT) hc) hT cl_7 wd_1197 mo_X7_of wd_1199 wd_24 ⟨Nat.le_of_ble_eq_true rfl, Nat.le_of_ble_eq_true rfl⟩ ⟨Nat.le_of_ble_eq_true rfl, Nat.le_of_ble_eq_true rfl⟩ rfl (rest := []) rfl (Nat.le_of_ble_eq_true rfl) dX7_infoOf_115 (fun H locs hP hS => ?_)
    have e := Option.some.inj h
    exact q_i C hlk hP hS hr (by rw [← e]) rfl dX7_infoOf_118
  rw [if_neg q5] at h
  by_cases q6 : a2 = 6
  · rw [if_pos q6] at h
    refine lv_tableIn (off := 118) (tgt := 119) C.1 C.2.1 dX7_infoOf_1 (by rw [q6]; decide) (by rw [q6]; decide) (by rw [q6]; decide) (by decide) ?_
    refine lv_aload_n C.1 C.2.1 dX7_infoOf_119 rfl (lv_at hl 0 rfl) ?_
    refine lv_iload_n C.1 C.2.1 dX7_infoOf_120 rfl (lv_at hl 1 rfl) ?_
    refine lv_iconst (v := 4) C.1 C.2.1 dX7_infoOf_121 (by decide) ?_
    obtain ⟨r7, hc, h⟩ := bS h
    refine r_V1 C hK hX hb hP hS hl.1 (kX7_of (hT) hc) hT cl_7 wd_1197 mo_X7_of wd_1199 wd_24 ⟨Nat.le_of_ble_eq_true rfl, Nat.le_of_ble_eq_true rfl⟩ ⟨Nat.le_of_ble_eq_true rfl, Nat.le_of_ble_eq_true rfl⟩ rfl (rest := []) rfl (Nat.le_of_ble_eq_true rfl) dX7_infoOf_122 (fun H locs hP hS => ?_)
    have e := Option.some.inj h
    exact q_i C hlk hP hS hr (by rw [← e]) rfl dX7_infoOf_125
  rw [if_neg q6] at h
  by_cases q7 : a2 = 7
  · rw [if_pos q7] at h
    refine lv_tableIn (off := 169) (tgt := 170) C.1 C.2.1 dX7_infoOf_1 (by rw [q7]; decide) (by rw [q7]; decide) (by rw [q7]; decide) (by decide) ?_
    refine lv_aload_n C.1 C.2.1 dX7_infoOf_170 rfl (lv_at hl 0 rfl) ?_
    refine lv_iload_n C.1 C.2.1 dX7_infoOf_171 rfl (lv_at hl 1 rfl) ?_
    refine lv_iconst (v := 5) C.1 C.2.1 dX7_infoOf_172 (by decide) ?_
    refine lv_iload_n C.1 C.2.1 dX7_infoOf_173 rfl (lv_at hl 2 rfl) ?_
    refine lv_iadd C.1 C.2.1 dX7_infoOf_174 ?_
    refine lv_bipush (v := 7) C.1 C.2.1 dX7_infoOf_175 (by decide) ?_
    refine lv_isub C.1 C.2.1 dX7_infoOf_177 ?_
    obtain ⟨r8, hc, h⟩ := bS h
    refine r_V1 C hK hX hb hP hS hl.1 (kX7_of (hT) hc) hT cl_7 wd_1197 mo_X7_of wd_1199 wd_24 ⟨Nat.le_of_ble_eq_true rfl, Nat.le_of_ble_eq_true rfl⟩ ⟨Nat.le_of_ble_eq_true rfl, Nat.le_of_ble_eq_true rfl⟩ rfl (rest := []) rfl (Nat.le_of_ble_eq_true rfl) dX7_infoOf_178 (fun H locs hP hS => ?_)
    have e := Option.some.inj h
    exact q_i C hlk hP hS hr (by rw [← e]) rfl dX7_infoOf_181
  rw [if_neg q7] at h
  by_cases q8 : a2 = 8
  · rw [if_pos q8] at h
    refine lv_tableIn (off := 169) (tgt := 170) C.1 C.2.1 dX7_infoOf_1 (by rw [q8]; decide) (by rw [q8]; decide) (by rw [q8]; decide) (by decide) ?_
    refine lv_aload_n C.1 C.2.1 dX7_infoOf_170 rfl (lv_at hl 0 rfl) ?_
    refine lv_iload_n C.1 C.2.1 dX7_infoOf_171 rfl (lv_at hl 1 rfl) ?_
    refine lv_iconst (v := 5) C.1 C.2.1 dX7_infoOf_172 (by decide) ?_
    refine lv_iload_n C.1 C.2.1 dX7_infoOf_173 rfl (lv_at hl 2 rfl) ?_
    refine lv_iadd C.1 C.2.1 dX7_infoOf_174 ?_
    refine lv_bipush (v := 7) C.1 C.2.1 dX7_infoOf_175 (by decide) ?_
    refine lv_isub C.1 C.2.1 dX7_infoOf_177 ?_
    obtain ⟨r9, hc, h⟩ := bS h
    refine r_V1 C hK hX hb hP hS hl.1 (kX7_of (hT) hc) hT cl_7 wd_1197 mo_X7_of wd_1199 wd_24 ⟨Nat.le_of_ble_eq_true rfl, Nat.le_of_ble_eq_true rfl⟩ ⟨Nat.le_of_ble_eq_true rfl, Nat.le_of_ble_eq_true rfl⟩ rfl (rest := []) rfl (Nat.le_of_ble_eq_true rfl) dX7_infoOf_178 (fun H locs hP hS => ?_)
    have e := Option.some.inj h
    exact q_i C hlk hP hS hr (by rw [← e]) rfl dX7_infoOf_181
  rw [if_neg q8] at h
  by_cases q9 : a2 = 9
  · rw [if_pos q9] at h
    refine lv_tableIn (off := 169) (tgt := 170) C.1 C.2.1 dX7_infoOf_1 (by rw [q9]; decide) (by rw [q9]; decide) (by rw [q9]; decide) (by decide) ?_
    refine lv_aload_n C.1 C.2.1 dX7_infoOf_170 rfl (lv_at hl 0 rfl) ?_
    refine lv_iload_n C.1 C.2.1 dX7_infoOf_171 rfl (lv_at hl 1 rfl) ?_
    refine lv_iconst (v := 5) C.1 C.2.1 dX7_infoOf_172 (by decide) ?_
    refine lv_iload_n C.1 C.2.1 dX7_infoOf_173 rfl (lv_at hl 2 rfl) ?_
    refine lv_iadd C.1 C.2.1 dX7_infoOf_174 ?_
    refine lv_bipush (v := 7) C.1 C.2.1 dX7_infoOf_175 (by decide) ?_
    refine lv_isub C.1 C.2.1 dX7_infoOf_177 ?_
    obtain ⟨r10, hc, h⟩ := bS h
    refine r_V1 C hK hX hb hP hS hl.1 (kX7_of (hT) hc) hT cl_7 wd_1197 mo_X7_of wd_1199 wd_24 ⟨Nat.le_of_ble_eq_true rfl, Nat.le_of_ble_eq_true rfl⟩ ⟨Nat.le_of_ble_eq_true rfl, Nat.le_of_ble_eq_true rfl⟩ rfl (rest := []) rfl (Nat.le_of_ble_eq_true rfl) dX7_infoOf_178 (fun H locs hP hS => ?_)
    have e := Option.some.inj h
    exact q_i C hlk hP hS hr (by rw [← e]) rfl dX7_infoOf_181
  rw [if_neg q9] at h
  by_cases q10 : a2 = 10
  · rw [if_pos q10] at h
    refine lv_tableIn (off := 169) (tgt := 170) C.1 C.2.1 dX7_infoOf_1 (by rw [q10]; decide) (by rw [q10]; decide) (by rw [q10]; decide) (by decide) ?_
    refine lv_aload_n C.1 C.2.1 dX7_infoOf_170 rfl (lv_at hl 0 rfl) ?_
    refine lv_iload_n C.1 C.2.1 dX7_infoOf_171 rfl (lv_at hl 1 rfl) ?_
    refine lv_iconst (v := 5) C.1 C.2.1 dX7_infoOf_172 (by decide) ?_
    refine lv_iload_n C.1 C.2.1 dX7_infoOf_173 rfl (lv_at hl 2 rfl) ?_
    refine lv_iadd C.1 C.2.1 dX7_infoOf_174 ?_
    refine lv_bipush (v := 7) C.1 C.2.1 dX7_infoOf_175 (by decide) ?_
    refine lv_isub C.1 C.2.1 dX7_infoOf_177 ?_
    obtain ⟨r11, hc, h⟩ := bS h
    refine r_V1 C hK hX hb hP hS hl.1 (kX7_of (hT) hc) hT cl_7 wd_1197 mo_X7_of wd_1199 wd_24 ⟨Nat.le_of_ble_eq_true rfl, Nat.le_of_ble_eq_true rfl⟩ ⟨Nat.le_of_ble_eq_true rfl, Nat.le_of_ble_eq_true rfl⟩ rfl (rest := []) rfl (Nat.le_of_ble_eq_true rfl) dX7_infoOf_178 (fun H locs hP hS => ?_)
    have e := Option.some.inj h
    exact q_i C hlk hP hS hr (by rw [← e]) rfl dX7_infoOf_181
  rw [if_neg q10] at h
  by_cases q11 : a2 = 11
  · rw [if_pos q11] at h
    refine lv_tableIn (off := 169) (tgt := 170) C.1 C.2.1 dX7_infoOf_1 (by rw [q11]; decide) (by rw [q11]; decide) (by rw [q11]; decide) (by decide) ?_
    refine lv_aload_n C.1 C.2.1 dX7_infoOf_170 rfl (lv_at hl 0 rfl) ?_
    refine lv_iload_n C.1 C.2.1 dX7_infoOf_171 rfl (lv_at hl 1 rfl) ?_
    refine lv_iconst (v := 5) C.1 C.2.1 dX7_infoOf_172 (by decide) ?_
    refine lv_iload_n C.1 C.2.1 dX7_infoOf_173 rfl (lv_at hl 2 rfl) ?_
    refine lv_iadd C.1 C.2.1 dX7_infoOf_174 ?_
    refine lv_bipush (v := 7) C.1 C.2.1 dX7_infoOf_175 (by decide) ?_
    refine lv_isub C.1 C.2.1 dX7_infoOf_177 ?_
    obtain ⟨r12, hc, h⟩ := bS h
    refine r_V1 C hK hX hb hP hS hl.1 (kX7_of (hT) hc) hT cl_7 wd_1197 mo_X7_of wd_1199 wd_24 ⟨Nat.le_of_ble_eq_true rfl, Nat.le_of_ble_eq_true rfl⟩ ⟨Nat.le_of_ble_eq_true rfl, Nat.le_of_ble_eq_true rfl⟩ rfl (rest := []) rfl (Nat.le_of_ble_eq_true rfl) dX7_infoOf_178 (fun H locs hP hS => ?_)
    have e := Option.some.inj h
    exact q_i C hlk hP hS hr (by rw [← e]) rfl dX7_infoOf_181
  rw [if_neg q11] at h
  by_cases q12 : a2 = 12
  · rw [if_pos q12] at h
    refine lv_tableIn (off := 125) (tgt := 126) C.1 C.2.1 dX7_infoOf_1 (by rw [q12]; decide) (by rw [q12]; decide) (by rw [q12]; decide) (by decide) ?_
    refine lv_aload_n C.1 C.2.1 dX7_infoOf_126 rfl (lv_at hl 0 rfl) ?_
    refine lv_iload_n C.1 C.2.1 dX7_infoOf_127 rfl (lv_at hl 1 rfl) ?_
    refine lv_bipush (v := 10) C.1 C.2.1 dX7_infoOf_128 (by decide) ?_
    obtain ⟨r13, hc, h⟩ := bS h
    refine r_V1 C hK hX hb hP hS hl.1 (kX7_of (hT) hc) hT cl_7 wd_1197 mo_X7_of wd_1199 wd_24 ⟨Nat.le_of_ble_eq_true rfl, Nat.le_of_ble_eq_true rfl⟩ ⟨Nat.le_of_ble_eq_true rfl, Nat.le_of_ble_eq_true rfl⟩ rfl (rest := []) rfl (Nat.le_of_ble_eq_true rfl) dX7_infoOf_130 (fun H locs hP hS => ?_)
    refine b_le (tgt := 140) C dX7_infoOf_133 (by decide) h (fun h => ?_) (fun h => ?_)
    · refine lv_iconst (v := 0) C.1 C.2.1 dX7_infoOf_140 (by decide) ?_
      have e := Option.some.inj h
      exact q_i C hlk hP hS hr (by rw [← e]) rfl dX7_infoOf_141
    · refine lv_iconst (v := 1) C.1 C.2.1 dX7_infoOf_136 (by decide) ?_
      refine lv_goto (tgt := 141) C.1 C.2.1 dX7_infoOf_137 (by decide) ?_
      have e := Option.some.inj h
      exact q_i C hlk hP hS hr (by rw [← e]) rfl dX7_infoOf_141
  rw [if_neg q12] at h
  by_cases q13 : a2 = 13
  · rw [if_pos q13] at h
    refine lv_tableIn (off := 141) (tgt := 142) C.1 C.2.1 dX7_infoOf_1 (by rw [q13]; decide) (by rw [q13]; decide) (by rw [q13]; decide) (by decide) ?_
    refine lv_aload_n C.1 C.2.1 dX7_infoOf_142 rfl (lv_at hl 0 rfl) ?_
    refine lv_iload_n C.1 C.2.1 dX7_infoOf_143 rfl (lv_at hl 1 rfl) ?_
    obtain ⟨r14, hc, h⟩ := bS h
    refine r_V1 C hK hX hb hP hS hl.1 (kX7_isOut (hT) hc) hT cl_7 wd_1260 mo_X7_isOut wd_1262 wd_35 ⟨Nat.le_of_ble_eq_true rfl, Nat.le_of_ble_eq_true rfl⟩ ⟨Nat.le_of_ble_eq_true rfl, Nat.le_of_ble_eq_true rfl⟩ rfl (rest := []) rfl (Nat.le_of_ble_eq_true rfl) dX7_infoOf_144 (fun H locs hP hS => ?_)
    refine b_eq (tgt := 154) C dX7_infoOf_147 (by decide) h (fun h => ?_) (fun h => ?_)
    · refine lv_iconst (v := 0) C.1 C.2.1 dX7_infoOf_154 (by decide) ?_
      have e := Option.some.inj h
      exact q_i C hlk hP hS hr (by rw [← e]) rfl dX7_infoOf_155
    · refine lv_iconst (v := 1) C.1 C.2.1 dX7_infoOf_150 (by decide) ?_
      refine lv_goto (tgt := 155) C.1 C.2.1 dX7_infoOf_151 (by decide) ?_
      have e := Option.some.inj h
      exact q_i C hlk hP hS hr (by rw [← e]) rfl dX7_infoOf_155
  rw [if_neg q13] at h
  by_cases q14 : a2 = 14
  · rw [if_pos q14] at h
    refine lv_tableIn (off := 155) (tgt := 156) C.1 C.2.1 dX7_infoOf_1 (by rw [q14]; decide) (by rw [q14]; decide) (by rw [q14]; decide) (by decide) ?_
    refine lv_aload_n C.1 C.2.1 dX7_infoOf_156 rfl (lv_at hl 0 rfl) ?_
    refine lv_iload_n C.1 C.2.1 dX7_infoOf_157 rfl (lv_at hl 1 rfl) ?_
    obtain ⟨r15, hc, h⟩ := bS h
    refine r_V1 C hK hX hb hP hS hl.1 (kX7_isShown (hT) hc) hT cl_7 wd_1264 mo_X7_isShown wd_1266 wd_36 ⟨Nat.le_of_ble_eq_true rfl, Nat.le_of_ble_eq_true rfl⟩ ⟨Nat.le_of_ble_eq_true rfl, Nat.le_of_ble_eq_true rfl⟩ rfl (rest := []) rfl (Nat.le_of_ble_eq_true rfl) dX7_infoOf_158 (fun H locs hP hS => ?_)
    refine b_eq (tgt := 168) C dX7_infoOf_161 (by decide) h (fun h => ?_) (fun h => ?_)
    · refine lv_iconst (v := 0) C.1 C.2.1 dX7_infoOf_168 (by decide) ?_
      have e := Option.some.inj h
      exact q_i C hlk hP hS hr (by rw [← e]) rfl dX7_infoOf_169
    · refine lv_iconst (v := 1) C.1 C.2.1 dX7_infoOf_164 (by decide) ?_
      refine lv_goto (tgt := 169) C.1 C.2.1 dX7_infoOf_165 (by decide) ?_
      have e := Option.some.inj h
      exact q_i C hlk hP hS hr (by rw [← e]) rfl dX7_infoOf_169
  rw [if_neg q14] at h
  refine lv_tableOut (tgt := 170) C.1 C.2.1 dX7_infoOf_1 (sw_out (x := a2) (lo := 0) (n := 15) (by decide) (fun j hj => match j, hj with | 0, _ => fun hx => q0 (hx.trans (by decide)) | 1, _ => fun hx => q1 (hx.trans (by decide)) | 2, _ => fun hx => q2 (hx.trans (by decide)) | 3, _ => fun hx => q3 (hx.trans (by decide)) | 4, _ => fun hx => q4 (hx.trans (by decide)) | 5, _ => fun hx => q5 (hx.trans (by decide)) | 6, _ => fun hx => q6 (hx.trans (by decide)) | 7, _ => fun hx => q7 (hx.trans (by decide)) | 8, _ => fun hx => q8 (hx.trans (by decide)) | 9, _ => fun hx => q9 (hx.trans (by decide)) | 10, _ => fun hx => q10 (hx.trans (by decide)) | 11, _ => fun hx => q11 (hx.trans (by decide)) | 12, _ => fun hx => q12 (hx.trans (by decide)) | 13, _ => fun hx => q13 (hx.trans (by decide)) | 14, _ => fun hx => q14 (hx.trans (by decide)) | (k + 15), hj => absurd hj (by omega))) (by decide) ?_
  refine lv_aload_n C.1 C.2.1 dX7_infoOf_170 rfl (lv_at hl 0 rfl) ?_
  refine lv_iload_n C.1 C.2.1 dX7_infoOf_171 rfl (lv_at hl 1 rfl) ?_
  refine lv_iconst (v := 5) C.1 C.2.1 dX7_infoOf_172 (by decide) ?_
  refine lv_iload_n C.1 C.2.1 dX7_infoOf_173 rfl (lv_at hl 2 rfl) ?_
  refine lv_iadd C.1 C.2.1 dX7_infoOf_174 ?_
  refine lv_bipush (v := 7) C.1 C.2.1 dX7_infoOf_175 (by decide) ?_
  refine lv_isub C.1 C.2.1 dX7_infoOf_177 ?_
  obtain ⟨r16, hc, h⟩ := bS h
  refine r_V1 C hK hX hb hP hS hl.1 (kX7_of (hT) hc) hT cl_7 wd_1197 mo_X7_of wd_1199 wd_24 ⟨Nat.le_of_ble_eq_true rfl, Nat.le_of_ble_eq_true rfl⟩ ⟨Nat.le_of_ble_eq_true rfl, Nat.le_of_ble_eq_true rfl⟩ rfl (rest := []) rfl (Nat.le_of_ble_eq_true rfl) dX7_infoOf_178 (fun H locs hP hS => ?_)
  have e := Option.some.inj h
  exact q_i C hlk hP hS hr (by rw [← e]) rfl dX7_infoOf_181
theorem dX7_info_0 : decode cX7_info 0 = .ok (.aload_n 0, 1) := by decide +kernel
theorem dX7_info_1 : decode cX7_info 1 = .ok (.aload_n 0, 1) := by decide +kernel
theorem dX7_info_2 : decode cX7_info 2 = .ok (.iload_n 1, 1) := by decide +kernel
theorem dX7_info_3 : decode cX7_info 3 = .ok (.invokevirtual 123, 3) := by decide +kernel
theorem dX7_info_6 : decode cX7_info 6 = .ok (.ifCond .ne 7, 3) := by decide +kernel
theorem dX7_info_9 : decode cX7_info 9 = .ok (.iconst 1, 1) := by decide +kernel
theorem dX7_info_10 : decode cX7_info 10 = .ok (.goto 18, 3) := by decide +kernel
theorem dX7_info_13 : decode cX7_info 13 = .ok (.iload_n 2, 1) := by decide +kernel
theorem dX7_info_14 : decode cX7_info 14 = .ok (.iconst 0, 1) := by decide +kernel
theorem dX7_info_15 : decode cX7_info 15 = .ok (.bipush 14, 2) := by decide +kernel
theorem dX7_info_17 : decode cX7_info 17 = .ok (.invokestatic 36, 3) := by decide +kernel
theorem dX7_info_20 : decode cX7_info 20 = .ok (.ifCond .ne 7, 3) := by decide +kernel
theorem dX7_info_23 : decode cX7_info 23 = .ok (.iconst 2, 1) := by decide +kernel
theorem dX7_info_24 : decode cX7_info 24 = .ok (.goto 4, 3) := by decide +kernel
theorem dX7_info_27 : decode cX7_info 27 = .ok (.iconst 0, 1) := by decide +kernel
theorem dX7_info_28 : decode cX7_info 28 = .ok (.putfield 29, 3) := by decide +kernel
theorem dX7_info_31 : decode cX7_info 31 = .ok (.aload_n 0, 1) := by decide +kernel
theorem dX7_info_32 : decode cX7_info 32 = .ok (.getfield 29, 3) := by decide +kernel
theorem dX7_info_35 : decode cX7_info 35 = .ok (.ifCond .eq 7, 3) := by decide +kernel
theorem dX7_info_38 : decode cX7_info 38 = .ok (.iconst 0, 1) := by decide +kernel
theorem dX7_info_39 : decode cX7_info 39 = .ok (.goto 9, 3) := by decide +kernel
theorem dX7_info_42 : decode cX7_info 42 = .ok (.aload_n 0, 1) := by decide +kernel
theorem dX7_info_43 : decode cX7_info 43 = .ok (.iload_n 1, 1) := by decide +kernel
theorem dX7_info_44 : decode cX7_info 44 = .ok (.iload_n 2, 1) := by decide +kernel
theorem dX7_info_45 : decode cX7_info 45 = .ok (.invokevirtual 149, 3) := by decide +kernel
theorem dX7_info_48 : decode cX7_info 48 = .ok (.ireturn, 1) := by decide +kernel
abbrev rmX7_info : Room := { frames := 5, cells := 0, slots := 0, locals := 128 }
noncomputable def fX7_info_28 (n : Nat) (Sh : Sp) (a0 : Nat) (a1 : Int32) (a2 : Int32) (M : Mm) (t0 : Nat) (t1 : Int32) : Option (Int32 × Mm) :=
  pI Sh M t0 7 5 t1 fun M1 =>
  tI M1 a0 5 fun x2 =>
  if x2 = 0 then
    (fX7_infoOf n Sh M1 a0 a1 a2).bind fun r3 =>
    some (r3, M1)
  else
    some (0, M1)
noncomputable def fX7_info (n : Nat) (Sh : Sp) (M : Mm) (a0 : Nat) (a1 : Int32) (a2 : Int32) : Option (Int32 × Mm) :=
  (fX7_isNode n Sh M a0 a1).bind fun r4 =>
  if r4 = 0 then
    fX7_info_28 n Sh a0 a1 a2 M a0 1
  else
    (fX7_in n Sh M a2 0 14).bind fun r5 =>
    if r5 = 0 then
      fX7_info_28 n Sh a0 a1 a2 M a0 2
    else
      fX7_info_28 n Sh a0 a1 a2 M a0 0
set_option maxRecDepth 100000 in
set_option maxHeartbeats 4000000 in
theorem kX7_info {l : Launch} {G : Gt} {n : Nat} {Sh : Sp} {M : Mm} {a0 : Nat} {a1 : Int32} {a2 : Int32} (hT : Sh a0 = some (.inl 7)) {r : (Int32 × Mm)} (h : fX7_info n Sh M a0 a1 a2 = some r) : Ct l yX7_info cX7_info 3 (some .int) rmX7_info G Sh M [.ref a0, .int a1, .int a2] (some (.int r.1)) r.2 := by
  refine Ct.of (by decide) (Nat.le_of_ble_eq_true rfl) ?_
  intro p e s m args below meth c ls C hK hX hP hS hb hlk hr hl
  replace hl : lv_has ls 3 [(0, .ref a0), (1, .int a1), (2, .int a2)] := hl
  have J28 : ∀ (M : Mm) (t0 : Nat) (t1 : Int32) (H : Heap) (locs : List Loc) (ls : Array Slot), HM G Sh M H → SS G s s.heap.size H locs → lv_has ls 3 [(0, .ref a0), (1, .int a1), (2, .int a2)] → fX7_info_28 n Sh a0 a1 a2 M t0 t1 = some r → W p l e rmX7_info s m args below meth c H locs 0 0 (MQ below (QG G Sh r.2 (some (.int r.1))) args s rmX7_info.cells rmX7_info.slots (AA G)) (F0 m 28 ls [.int t1, .ref t0]) := by
    intro M t0 t1 H locs ls hP hS hl h
    unfold fX7_info_28 at h
    refine r_pI C hK hP hS cl_7 (k := 5) (by decide) wd_1149 rfl rfl (tyX7_ok 5 (by decide)) dX7_info_28 h (fun M1 H locs h hP hS => ?_)
    refine lv_aload_n C.1 C.2.1 dX7_info_31 rfl (lv_at hl 0 rfl) ?_
    refine r_tI C hK hP hT cl_7 (k := 5) (by decide) wd_1149 rfl dX7_info_32 h (fun x2 h => ?_)
    refine b_eq (tgt := 42) C dX7_info_35 (by decide) h (fun h => ?_) (fun h => ?_)
    · refine lv_aload_n C.1 C.2.1 dX7_info_42 rfl (lv_at hl 0 rfl) ?_
      refine lv_iload_n C.1 C.2.1 dX7_info_43 rfl (lv_at hl 1 rfl) ?_
      refine lv_iload_n C.1 C.2.1 dX7_info_44 rfl (lv_at hl 2 rfl) ?_
      obtain ⟨r3, hc, h⟩ := bS h
      refine r_V1 C hK hX hb hP hS hl.1 (kX7_infoOf (hT) hc) hT cl_7 wd_1256 mo_X7_infoOf wd_1258 wd_34 ⟨Nat.le_of_ble_eq_true rfl, Nat.le_of_ble_eq_true rfl⟩ ⟨Nat.le_of_ble_eq_true rfl, Nat.le_of_ble_eq_true rfl⟩ rfl (rest := []) rfl (Nat.le_of_ble_eq_true rfl) dX7_info_45 (fun H locs hP hS => ?_)
      have e := Option.some.inj h
      exact q_i C hlk hP hS hr (by rw [← e]) (by rw [← e]) dX7_info_48
    · refine lv_iconst (v := 0) C.1 C.2.1 dX7_info_38 (by decide) ?_
      refine lv_goto (tgt := 48) C.1 C.2.1 dX7_info_39 (by decide) ?_
      have e := Option.some.inj h
      exact q_i C hlk hP hS hr (by rw [← e]) (by rw [← e]) dX7_info_48
  unfold fX7_info at h
  refine lv_aload_n C.1 C.2.1 dX7_info_0 rfl (lv_at hl 0 rfl) ?_
  refine lv_aload_n C.1 C.2.1 dX7_info_1 rfl (lv_at hl 0 rfl) ?_
  refine lv_iload_n C.1 C.2.1 dX7_info_2 rfl (lv_at hl 1 rfl) ?_
  obtain ⟨r4, hc, h⟩ := bS h
  refine r_V1 C hK hX hb hP hS hl.1 (kX7_isNode (hT) hc) hT cl_7 wd_1190 mo_X7_isNode wd_1192 wd_23 ⟨Nat.le_of_ble_eq_true rfl, Nat.le_of_ble_eq_true rfl⟩ ⟨Nat.le_of_ble_eq_true rfl, Nat.le_of_ble_eq_true rfl⟩ rfl (rest := [.ref a0]) rfl (Nat.le_of_ble_eq_true rfl) dX7_info_3 (fun H locs hP hS => ?_)
  refine b_ne (tgt := 13) C dX7_info_6 (by decide) h (fun h => ?_) (fun h => ?_)
  · refine lv_iconst (v := 1) C.1 C.2.1 dX7_info_9 (by decide) ?_
    refine lv_goto (tgt := 28) C.1 C.2.1 dX7_info_10 (by decide) ?_
    exact J28 (M) (a0) (1) _ _ _ hP hS (lv_sub hl [0, 1, 2] rfl) h
  · refine lv_iload_n C.1 C.2.1 dX7_info_13 rfl (lv_at hl 2 rfl) ?_
    refine lv_iconst (v := 0) C.1 C.2.1 dX7_info_14 (by decide) ?_
    refine lv_bipush (v := 14) C.1 C.2.1 dX7_info_15 (by decide) ?_
    obtain ⟨r5, hc, h⟩ := bS h
    refine r_S1 C hK hX hb hP hS hl.1 (kX7_in hc) wd_1194 mo_X7_in wd_1195 ⟨Nat.le_of_ble_eq_true rfl, Nat.le_of_ble_eq_true rfl⟩ ⟨Nat.le_of_ble_eq_true rfl, Nat.le_of_ble_eq_true rfl⟩ rfl (rest := [.ref a0]) rfl (Nat.le_of_ble_eq_true rfl) dX7_info_17 (fun H locs hP hS => ?_)
    refine b_ne (tgt := 27) C dX7_info_20 (by decide) h (fun h => ?_) (fun h => ?_)
    · refine lv_iconst (v := 2) C.1 C.2.1 dX7_info_23 (by decide) ?_
      refine lv_goto (tgt := 28) C.1 C.2.1 dX7_info_24 (by decide) ?_
      exact J28 (M) (a0) (2) _ _ _ hP hS (lv_sub hl [0, 1, 2] rfl) h
    · refine lv_iconst (v := 0) C.1 C.2.1 dX7_info_27 (by decide) ?_
      exact J28 (M) (a0) (0) _ _ _ hP hS (lv_sub hl [0, 1, 2] rfl) h
theorem dX7_child_0 : decode cX7_child 0 = .ok (.aload_n 0, 1) := by decide +kernel
theorem dX7_child_1 : decode cX7_child 1 = .ok (.aload_n 0, 1) := by decide +kernel
theorem dX7_child_2 : decode cX7_child 2 = .ok (.iload_n 1, 1) := by decide +kernel
theorem dX7_child_3 : decode cX7_child 3 = .ok (.invokevirtual 123, 3) := by decide +kernel
theorem dX7_child_6 : decode cX7_child 6 = .ok (.ifCond .eq 7, 3) := by decide +kernel
theorem dX7_child_9 : decode cX7_child 9 = .ok (.iconst 0, 1) := by decide +kernel
theorem dX7_child_10 : decode cX7_child 10 = .ok (.goto 4, 3) := by decide +kernel
theorem dX7_child_13 : decode cX7_child 13 = .ok (.iconst 1, 1) := by decide +kernel
theorem dX7_child_14 : decode cX7_child 14 = .ok (.putfield 29, 3) := by decide +kernel
theorem dX7_child_17 : decode cX7_child 17 = .ok (.aload_n 0, 1) := by decide +kernel
theorem dX7_child_18 : decode cX7_child 18 = .ok (.getfield 29, 3) := by decide +kernel
theorem dX7_child_21 : decode cX7_child 21 = .ok (.ifCond .eq 7, 3) := by decide +kernel
theorem dX7_child_24 : decode cX7_child 24 = .ok (.iconst 0, 1) := by decide +kernel
theorem dX7_child_25 : decode cX7_child 25 = .ok (.goto 9, 3) := by decide +kernel
theorem dX7_child_28 : decode cX7_child 28 = .ok (.aload_n 0, 1) := by decide +kernel
theorem dX7_child_29 : decode cX7_child 29 = .ok (.iload_n 1, 1) := by decide +kernel
theorem dX7_child_30 : decode cX7_child 30 = .ok (.iload_n 2, 1) := by decide +kernel
theorem dX7_child_31 : decode cX7_child 31 = .ok (.invokevirtual 44, 3) := by decide +kernel
theorem dX7_child_34 : decode cX7_child 34 = .ok (.ireturn, 1) := by decide +kernel
abbrev rmX7_child : Room := { frames := 3, cells := 0, slots := 0, locals := 85 }
noncomputable def fX7_child_14 (n : Nat) (Sh : Sp) (a0 : Nat) (a1 : Int32) (a2 : Int32) (M : Mm) (t0 : Nat) (t1 : Int32) : Option (Int32 × Mm) :=
  pI Sh M t0 7 5 t1 fun M1 =>
  tI M1 a0 5 fun x2 =>
  if x2 = 0 then
    (fX7_childAt n Sh M1 a0 a1 a2).bind fun r3 =>
    some (r3, M1)
  else
    some (0, M1)
noncomputable def fX7_child (n : Nat) (Sh : Sp) (M : Mm) (a0 : Nat) (a1 : Int32) (a2 : Int32) : Option (Int32 × Mm) :=
  (fX7_isNode n Sh M a0 a1).bind fun r4 =>
  if r4 = 0 then
    fX7_child_14 n Sh a0 a1 a2 M a0 1
  else
    fX7_child_14 n Sh a0 a1 a2 M a0 0
set_option maxRecDepth 100000 in
set_option maxHeartbeats 4000000 in
theorem kX7_child {l : Launch} {G : Gt} {n : Nat} {Sh : Sp} {M : Mm} {a0 : Nat} {a1 : Int32} {a2 : Int32} (hT : Sh a0 = some (.inl 7)) {r : (Int32 × Mm)} (h : fX7_child n Sh M a0 a1 a2 = some r) : Ct l yX7_child cX7_child 3 (some .int) rmX7_child G Sh M [.ref a0, .int a1, .int a2] (some (.int r.1)) r.2 := by
  refine Ct.of (by decide) (Nat.le_of_ble_eq_true rfl) ?_
  intro p e s m args below meth c ls C hK hX hP hS hb hlk hr hl
  replace hl : lv_has ls 3 [(0, .ref a0), (1, .int a1), (2, .int a2)] := hl
  have J14 : ∀ (M : Mm) (t0 : Nat) (t1 : Int32) (H : Heap) (locs : List Loc) (ls : Array Slot), HM G Sh M H → SS G s s.heap.size H locs → lv_has ls 3 [(0, .ref a0), (1, .int a1), (2, .int a2)] → fX7_child_14 n Sh a0 a1 a2 M t0 t1 = some r → W p l e rmX7_child s m args below meth c H locs 0 0 (MQ below (QG G Sh r.2 (some (.int r.1))) args s rmX7_child.cells rmX7_child.slots (AA G)) (F0 m 14 ls [.int t1, .ref t0]) := by
    intro M t0 t1 H locs ls hP hS hl h
    unfold fX7_child_14 at h
    refine r_pI C hK hP hS cl_7 (k := 5) (by decide) wd_1149 rfl rfl (tyX7_ok 5 (by decide)) dX7_child_14 h (fun M1 H locs h hP hS => ?_)
    refine lv_aload_n C.1 C.2.1 dX7_child_17 rfl (lv_at hl 0 rfl) ?_
    refine r_tI C hK hP hT cl_7 (k := 5) (by decide) wd_1149 rfl dX7_child_18 h (fun x2 h => ?_)
    refine b_eq (tgt := 28) C dX7_child_21 (by decide) h (fun h => ?_) (fun h => ?_)
    · refine lv_aload_n C.1 C.2.1 dX7_child_28 rfl (lv_at hl 0 rfl) ?_
      refine lv_iload_n C.1 C.2.1 dX7_child_29 rfl (lv_at hl 1 rfl) ?_
      refine lv_iload_n C.1 C.2.1 dX7_child_30 rfl (lv_at hl 2 rfl) ?_
      obtain ⟨r3, hc, h⟩ := bS h
      refine r_V1 C hK hX hb hP hS hl.1 (kX7_childAt (hT) hc) hT cl_7 wd_1272 mo_X7_childAt wd_1274 wd_37 ⟨Nat.le_of_ble_eq_true rfl, Nat.le_of_ble_eq_true rfl⟩ ⟨Nat.le_of_ble_eq_true rfl, Nat.le_of_ble_eq_true rfl⟩ rfl (rest := []) rfl (Nat.le_of_ble_eq_true rfl) dX7_child_31 (fun H locs hP hS => ?_)
      have e := Option.some.inj h
      exact q_i C hlk hP hS hr (by rw [← e]) (by rw [← e]) dX7_child_34
    · refine lv_iconst (v := 0) C.1 C.2.1 dX7_child_24 (by decide) ?_
      refine lv_goto (tgt := 34) C.1 C.2.1 dX7_child_25 (by decide) ?_
      have e := Option.some.inj h
      exact q_i C hlk hP hS hr (by rw [← e]) (by rw [← e]) dX7_child_34
  unfold fX7_child at h
  refine lv_aload_n C.1 C.2.1 dX7_child_0 rfl (lv_at hl 0 rfl) ?_
  refine lv_aload_n C.1 C.2.1 dX7_child_1 rfl (lv_at hl 0 rfl) ?_
  refine lv_iload_n C.1 C.2.1 dX7_child_2 rfl (lv_at hl 1 rfl) ?_
  obtain ⟨r4, hc, h⟩ := bS h
  refine r_V1 C hK hX hb hP hS hl.1 (kX7_isNode (hT) hc) hT cl_7 wd_1190 mo_X7_isNode wd_1192 wd_23 ⟨Nat.le_of_ble_eq_true rfl, Nat.le_of_ble_eq_true rfl⟩ ⟨Nat.le_of_ble_eq_true rfl, Nat.le_of_ble_eq_true rfl⟩ rfl (rest := [.ref a0]) rfl (Nat.le_of_ble_eq_true rfl) dX7_child_3 (fun H locs hP hS => ?_)
  refine b_eq (tgt := 13) C dX7_child_6 (by decide) h (fun h => ?_) (fun h => ?_)
  · refine lv_iconst (v := 1) C.1 C.2.1 dX7_child_13 (by decide) ?_
    exact J14 (M) (a0) (1) _ _ _ hP hS (lv_sub hl [0, 1, 2] rfl) h
  · refine lv_iconst (v := 0) C.1 C.2.1 dX7_child_9 (by decide) ?_
    refine lv_goto (tgt := 14) C.1 C.2.1 dX7_child_10 (by decide) ?_
    exact J14 (M) (a0) (0) _ _ _ hP hS (lv_sub hl [0, 1, 2] rfl) h
theorem dX7_isSetting_0 : decode cX7_isSetting 0 = .ok (.iload_n 0, 1) := by decide +kernel
theorem dX7_isSetting_1 : decode cX7_isSetting 1 = .ok (.lookupswitch 42 #[(2, 27), (3, 35)], 27) := by decide +kernel
theorem dX7_isSetting_28 : decode cX7_isSetting 28 = .ok (.iload_n 1, 1) := by decide +kernel
theorem dX7_isSetting_29 : decode cX7_isSetting 29 = .ok (.iconst (-1), 1) := by decide +kernel
theorem dX7_isSetting_30 : decode cX7_isSetting 30 = .ok (.bipush 9, 2) := by decide +kernel
theorem dX7_isSetting_32 : decode cX7_isSetting 32 = .ok (.invokestatic 36, 3) := by decide +kernel
theorem dX7_isSetting_35 : decode cX7_isSetting 35 = .ok (.ireturn, 1) := by decide +kernel
theorem dX7_isSetting_36 : decode cX7_isSetting 36 = .ok (.iload_n 1, 1) := by decide +kernel
theorem dX7_isSetting_37 : decode cX7_isSetting 37 = .ok (.iconst 0, 1) := by decide +kernel
theorem dX7_isSetting_38 : decode cX7_isSetting 38 = .ok (.iconst 3, 1) := by decide +kernel
theorem dX7_isSetting_39 : decode cX7_isSetting 39 = .ok (.invokestatic 36, 3) := by decide +kernel
theorem dX7_isSetting_42 : decode cX7_isSetting 42 = .ok (.ireturn, 1) := by decide +kernel
theorem dX7_isSetting_43 : decode cX7_isSetting 43 = .ok (.iload_n 0, 1) := by decide +kernel
theorem dX7_isSetting_44 : decode cX7_isSetting 44 = .ok (.iconst 0, 1) := by decide +kernel
theorem dX7_isSetting_45 : decode cX7_isSetting 45 = .ok (.iconst 4, 1) := by decide +kernel
theorem dX7_isSetting_46 : decode cX7_isSetting 46 = .ok (.invokestatic 36, 3) := by decide +kernel
theorem dX7_isSetting_49 : decode cX7_isSetting 49 = .ok (.ifCond .eq 16, 3) := by decide +kernel
theorem dX7_isSetting_52 : decode cX7_isSetting 52 = .ok (.iload_n 1, 1) := by decide +kernel
theorem dX7_isSetting_53 : decode cX7_isSetting 53 = .ok (.iconst 0, 1) := by decide +kernel
theorem dX7_isSetting_54 : decode cX7_isSetting 54 = .ok (.iconst 1, 1) := by decide +kernel
theorem dX7_isSetting_55 : decode cX7_isSetting 55 = .ok (.invokestatic 36, 3) := by decide +kernel
theorem dX7_isSetting_58 : decode cX7_isSetting 58 = .ok (.ifCond .eq 7, 3) := by decide +kernel
theorem dX7_isSetting_61 : decode cX7_isSetting 61 = .ok (.iconst 1, 1) := by decide +kernel
theorem dX7_isSetting_62 : decode cX7_isSetting 62 = .ok (.goto 4, 3) := by decide +kernel
theorem dX7_isSetting_65 : decode cX7_isSetting 65 = .ok (.iconst 0, 1) := by decide +kernel
theorem dX7_isSetting_66 : decode cX7_isSetting 66 = .ok (.ireturn, 1) := by decide +kernel
abbrev rmX7_isSetting : Room := { frames := 2, cells := 0, slots := 0, locals := 62 }
noncomputable def fX7_isSetting (n : Nat) (Sh : Sp) (M : Mm) (a0 : Int32) (a1 : Int32) : Option Int32 :=
  if a0 = 2 then
    (fX7_in n Sh M a1 (-1) 9).bind fun r1 =>
    chk (r1 = 0 ∨ r1 = 1) (some r1)
  else if a0 = 3 then
    (fX7_in n Sh M a1 0 3).bind fun r2 =>
    chk (r2 = 0 ∨ r2 = 1) (some r2)
  else
    (fX7_in n Sh M a0 0 4).bind fun r3 =>
    if r3 = 0 then
      some 0
    else
      (fX7_in n Sh M a1 0 1).bind fun r4 =>
      if r4 = 0 then
        some 0
      else
        some 1
set_option maxRecDepth 100000 in
set_option maxHeartbeats 4000000 in
theorem kX7_isSetting {l : Launch} {G : Gt} {n : Nat} {Sh : Sp} {M : Mm} {a0 : Int32} {a1 : Int32} {r : Int32} (h : fX7_isSetting n Sh M a0 a1 = some r) : Ct l yX7_isSetting cX7_isSetting 2 (some .boolean) rmX7_isSetting G Sh M [.int a0, .int a1] (some (.int r)) M := by
  refine Ct.of (by decide) (Nat.le_of_ble_eq_true rfl) ?_
  intro p e s m args below meth c ls C hK hX hP hS hb hlk hr hl
  replace hl : lv_has ls 2 [(0, .int a0), (1, .int a1)] := hl
  unfold fX7_isSetting at h
  refine lv_iload_n C.1 C.2.1 dX7_isSetting_0 rfl (lv_at hl 0 rfl) ?_
  by_cases q0 : a0 = 2
  · rw [if_pos q0] at h
    refine lv_lookup (off := 27) (tgt := 28) C.1 C.2.1 dX7_isSetting_1 (by decide) (by rw [q0]; decide) (by decide) ?_
    refine lv_iload_n C.1 C.2.1 dX7_isSetting_28 rfl (lv_at hl 1 rfl) ?_
    refine lv_iconst (v := (-1)) C.1 C.2.1 dX7_isSetting_29 (by decide) ?_
    refine lv_bipush (v := 9) C.1 C.2.1 dX7_isSetting_30 (by decide) ?_
    obtain ⟨r1, hc, h⟩ := bS h
    refine r_S1 C hK hX hb hP hS hl.1 (kX7_in hc) wd_1194 mo_X7_in wd_1195 ⟨Nat.le_of_ble_eq_true rfl, Nat.le_of_ble_eq_true rfl⟩ ⟨Nat.le_of_ble_eq_true rfl, Nat.le_of_ble_eq_true rfl⟩ rfl (rest := []) rfl (Nat.le_of_ble_eq_true rfl) dX7_isSetting_32 (fun H locs hP hS => ?_)
    obtain ⟨hzz, h⟩ := chk_some h
    have e := Option.some.inj h
    exact q_z C hlk hP hS hr hzz (by rw [← e]) rfl dX7_isSetting_35
  rw [if_neg q0] at h
  by_cases q1 : a0 = 3
  · rw [if_pos q1] at h
    refine lv_lookup (off := 35) (tgt := 36) C.1 C.2.1 dX7_isSetting_1 (by decide) (by rw [q1]; decide) (by decide) ?_
    refine lv_iload_n C.1 C.2.1 dX7_isSetting_36 rfl (lv_at hl 1 rfl) ?_
    refine lv_iconst (v := 0) C.1 C.2.1 dX7_isSetting_37 (by decide) ?_
    refine lv_iconst (v := 3) C.1 C.2.1 dX7_isSetting_38 (by decide) ?_
    obtain ⟨r2, hc, h⟩ := bS h
    refine r_S1 C hK hX hb hP hS hl.1 (kX7_in hc) wd_1194 mo_X7_in wd_1195 ⟨Nat.le_of_ble_eq_true rfl, Nat.le_of_ble_eq_true rfl⟩ ⟨Nat.le_of_ble_eq_true rfl, Nat.le_of_ble_eq_true rfl⟩ rfl (rest := []) rfl (Nat.le_of_ble_eq_true rfl) dX7_isSetting_39 (fun H locs hP hS => ?_)
    obtain ⟨hzz, h⟩ := chk_some h
    have e := Option.some.inj h
    exact q_z C hlk hP hS hr hzz (by rw [← e]) rfl dX7_isSetting_42
  rw [if_neg q1] at h
  refine lv_lookup (off := 42) (tgt := 43) C.1 C.2.1 dX7_isSetting_1 (by decide) (by show Op.lookupswitch.offset [(2, 27), (3, 35)] 42 (Int32.toInt a0) = 42; rw [Op.lookupswitch.offset_cons, if_neg (lk_ne (2) (by decide) q0), Op.lookupswitch.offset_cons, if_neg (lk_ne (3) (by decide) q1), Op.lookupswitch.offset_nil]) (by decide) ?_
  refine lv_iload_n C.1 C.2.1 dX7_isSetting_43 rfl (lv_at hl 0 rfl) ?_
  refine lv_iconst (v := 0) C.1 C.2.1 dX7_isSetting_44 (by decide) ?_
  refine lv_iconst (v := 4) C.1 C.2.1 dX7_isSetting_45 (by decide) ?_
  obtain ⟨r3, hc, h⟩ := bS h
  refine r_S1 C hK hX hb hP hS hl.1 (kX7_in hc) wd_1194 mo_X7_in wd_1195 ⟨Nat.le_of_ble_eq_true rfl, Nat.le_of_ble_eq_true rfl⟩ ⟨Nat.le_of_ble_eq_true rfl, Nat.le_of_ble_eq_true rfl⟩ rfl (rest := []) rfl (Nat.le_of_ble_eq_true rfl) dX7_isSetting_46 (fun H locs hP hS => ?_)
  refine b_eq (tgt := 65) C dX7_isSetting_49 (by decide) h (fun h => ?_) (fun h => ?_)
  · refine lv_iconst (v := 0) C.1 C.2.1 dX7_isSetting_65 (by decide) ?_
    have e := Option.some.inj h
    exact q_z C hlk hP hS hr (by decide) (by rw [← e]) rfl dX7_isSetting_66
  · refine lv_iload_n C.1 C.2.1 dX7_isSetting_52 rfl (lv_at hl 1 rfl) ?_
    refine lv_iconst (v := 0) C.1 C.2.1 dX7_isSetting_53 (by decide) ?_
    refine lv_iconst (v := 1) C.1 C.2.1 dX7_isSetting_54 (by decide) ?_
    obtain ⟨r4, hc, h⟩ := bS h
    refine r_S1 C hK hX hb hP hS hl.1 (kX7_in hc) wd_1194 mo_X7_in wd_1195 ⟨Nat.le_of_ble_eq_true rfl, Nat.le_of_ble_eq_true rfl⟩ ⟨Nat.le_of_ble_eq_true rfl, Nat.le_of_ble_eq_true rfl⟩ rfl (rest := []) rfl (Nat.le_of_ble_eq_true rfl) dX7_isSetting_55 (fun H locs hP hS => ?_)
    refine b_eq (tgt := 65) C dX7_isSetting_58 (by decide) h (fun h => ?_) (fun h => ?_)
    · refine lv_iconst (v := 0) C.1 C.2.1 dX7_isSetting_65 (by decide) ?_
      have e := Option.some.inj h
      exact q_z C hlk hP hS hr (by decide) (by rw [← e]) rfl dX7_isSetting_66
    · refine lv_iconst (v := 1) C.1 C.2.1 dX7_isSetting_61 (by decide) ?_
      refine lv_goto (tgt := 66) C.1 C.2.1 dX7_isSetting_62 (by decide) ?_
      have e := Option.some.inj h
      exact q_z C hlk hP hS hr (by decide) (by rw [← e]) rfl dX7_isSetting_66
theorem dX7_set_0 : decode cX7_set 0 = .ok (.aload_n 0, 1) := by decide +kernel
theorem dX7_set_1 : decode cX7_set 1 = .ok (.aload_n 0, 1) := by decide +kernel
theorem dX7_set_2 : decode cX7_set 2 = .ok (.iload_n 1, 1) := by decide +kernel
theorem dX7_set_3 : decode cX7_set 3 = .ok (.invokevirtual 123, 3) := by decide +kernel
theorem dX7_set_6 : decode cX7_set 6 = .ok (.ifCond .ne 7, 3) := by decide +kernel
theorem dX7_set_9 : decode cX7_set 9 = .ok (.iconst 1, 1) := by decide +kernel
theorem dX7_set_10 : decode cX7_set 10 = .ok (.goto 28, 3) := by decide +kernel
theorem dX7_set_13 : decode cX7_set 13 = .ok (.iload_n 2, 1) := by decide +kernel
theorem dX7_set_14 : decode cX7_set 14 = .ok (.iload_n 3, 1) := by decide +kernel
theorem dX7_set_15 : decode cX7_set 15 = .ok (.invokestatic 152, 3) := by decide +kernel
theorem dX7_set_18 : decode cX7_set 18 = .ok (.ifCond .ne 7, 3) := by decide +kernel
theorem dX7_set_21 : decode cX7_set 21 = .ok (.iconst 2, 1) := by decide +kernel
theorem dX7_set_22 : decode cX7_set 22 = .ok (.goto 16, 3) := by decide +kernel
theorem dX7_set_25 : decode cX7_set 25 = .ok (.iload_n 1, 1) := by decide +kernel
theorem dX7_set_26 : decode cX7_set 26 = .ok (.ifCond .ne 11, 3) := by decide +kernel
theorem dX7_set_29 : decode cX7_set 29 = .ok (.iload_n 2, 1) := by decide +kernel
theorem dX7_set_30 : decode cX7_set 30 = .ok (.ifCond .ne 7, 3) := by decide +kernel
theorem dX7_set_33 : decode cX7_set 33 = .ok (.iconst 3, 1) := by decide +kernel
theorem dX7_set_34 : decode cX7_set 34 = .ok (.goto 4, 3) := by decide +kernel
theorem dX7_set_37 : decode cX7_set 37 = .ok (.iconst 0, 1) := by decide +kernel
theorem dX7_set_38 : decode cX7_set 38 = .ok (.putfield 29, 3) := by decide +kernel
theorem dX7_set_41 : decode cX7_set 41 = .ok (.aload_n 0, 1) := by decide +kernel
theorem dX7_set_42 : decode cX7_set 42 = .ok (.getfield 29, 3) := by decide +kernel
theorem dX7_set_45 : decode cX7_set 45 = .ok (.ifCond .eq 5, 3) := by decide +kernel
theorem dX7_set_48 : decode cX7_set 48 = .ok (.iconst 0, 1) := by decide +kernel
theorem dX7_set_49 : decode cX7_set 49 = .ok (.ireturn, 1) := by decide +kernel
theorem dX7_set_50 : decode cX7_set 50 = .ok (.aload_n 0, 1) := by decide +kernel
theorem dX7_set_51 : decode cX7_set 51 = .ok (.invokevirtual 133, 3) := by decide +kernel
theorem dX7_set_54 : decode cX7_set 54 = .ok (.aload_n 0, 1) := by decide +kernel
theorem dX7_set_55 : decode cX7_set 55 = .ok (.iload_n 1, 1) := by decide +kernel
theorem dX7_set_56 : decode cX7_set 56 = .ok (.iconst 5, 1) := by decide +kernel
theorem dX7_set_57 : decode cX7_set 57 = .ok (.iload_n 2, 1) := by decide +kernel
theorem dX7_set_58 : decode cX7_set 58 = .ok (.iadd, 1) := by decide +kernel
theorem dX7_set_59 : decode cX7_set 59 = .ok (.invokevirtual 40, 3) := by decide +kernel
theorem dX7_set_62 : decode cX7_set 62 = .ok (.istore 4, 2) := by decide +kernel
theorem dX7_set_64 : decode cX7_set 64 = .ok (.aload_n 0, 1) := by decide +kernel
theorem dX7_set_65 : decode cX7_set 65 = .ok (.iload_n 1, 1) := by decide +kernel
theorem dX7_set_66 : decode cX7_set 66 = .ok (.iconst 5, 1) := by decide +kernel
theorem dX7_set_67 : decode cX7_set 67 = .ok (.iload_n 2, 1) := by decide +kernel
theorem dX7_set_68 : decode cX7_set 68 = .ok (.iadd, 1) := by decide +kernel
theorem dX7_set_69 : decode cX7_set 69 = .ok (.iload_n 3, 1) := by decide +kernel
theorem dX7_set_70 : decode cX7_set 70 = .ok (.invokevirtual 54, 3) := by decide +kernel
theorem dX7_set_73 : decode cX7_set 73 = .ok (.iload_n 2, 1) := by decide +kernel
theorem dX7_set_74 : decode cX7_set 74 = .ok (.ifCond .ne 18, 3) := by decide +kernel
theorem dX7_set_77 : decode cX7_set 77 = .ok (.iload 4, 2) := by decide +kernel
theorem dX7_set_79 : decode cX7_set 79 = .ok (.iconst 1, 1) := by decide +kernel
theorem dX7_set_80 : decode cX7_set 80 = .ok (.if_icmp .ne 12, 3) := by decide +kernel
theorem dX7_set_83 : decode cX7_set 83 = .ok (.iload_n 3, 1) := by decide +kernel
theorem dX7_set_84 : decode cX7_set 84 = .ok (.ifCond .ne 8, 3) := by decide +kernel
theorem dX7_set_87 : decode cX7_set 87 = .ok (.aload_n 0, 1) := by decide +kernel
theorem dX7_set_88 : decode cX7_set 88 = .ok (.iload_n 1, 1) := by decide +kernel
theorem dX7_set_89 : decode cX7_set 89 = .ok (.invokevirtual 155, 3) := by decide +kernel
theorem dX7_set_92 : decode cX7_set 92 = .ok (.iload 4, 2) := by decide +kernel
theorem dX7_set_94 : decode cX7_set 94 = .ok (.ireturn, 1) := by decide +kernel
abbrev rmX7_set : Room := { frames := 10, cells := 0, slots := 0, locals := 246 }
noncomputable def fX7_set_38 (n : Nat) (Sh : Sp) (a0 : Nat) (a1 : Int32) (a2 : Int32) (a3 : Int32) (M : Mm) (t0 : Nat) (t1 : Int32) : Option (Int32 × Mm) :=
  pI Sh M t0 7 5 t1 fun M1 =>
  tI M1 a0 5 fun x2 =>
  if x2 = 0 then
    (fX7_keep n Sh M1 a0).bind fun r3 =>
    (fX7_of n Sh r3 a0 a1 (5 + a2)).bind fun r4 =>
    (fX7_put n Sh r3 a0 a1 (5 + a2) a3).bind fun r5 =>
    if a2 = 0 then
      if r4 = 1 then
        if a3 = 0 then
          (fX7_announceChange n Sh r5 a0 a1).bind fun r6 =>
          some (r4, r6)
        else
          some (r4, r5)
      else
        some (r4, r5)
    else
      some (r4, r5)
  else
    some (0, M1)
noncomputable def fX7_set_37 (n : Nat) (Sh : Sp) (a0 : Nat) (a1 : Int32) (a2 : Int32) (a3 : Int32) (M : Mm) (t0 : Nat) : Option (Int32 × Mm) :=
  fX7_set_38 n Sh a0 a1 a2 a3 M t0 0
noncomputable def fX7_set (n : Nat) (Sh : Sp) (M : Mm) (a0 : Nat) (a1 : Int32) (a2 : Int32) (a3 : Int32) : Option (Int32 × Mm) :=
  (fX7_isNode n Sh M a0 a1).bind fun r7 =>
  if r7 = 0 then
    fX7_set_38 n Sh a0 a1 a2 a3 M a0 1
  else
    (fX7_isSetting n Sh M a2 a3).bind fun r8 =>
    if r8 = 0 then
      fX7_set_38 n Sh a0 a1 a2 a3 M a0 2
    else
      if a1 = 0 then
        if a2 = 0 then
          fX7_set_38 n Sh a0 a1 a2 a3 M a0 3
        else
          fX7_set_37 n Sh a0 a1 a2 a3 M a0
      else
        fX7_set_37 n Sh a0 a1 a2 a3 M a0
set_option maxRecDepth 100000 in
set_option maxHeartbeats 4000000 in
theorem kX7_set {l : Launch} {G : Gt} {n : Nat} {Sh : Sp} {M : Mm} {a0 : Nat} {a1 : Int32} {a2 : Int32} {a3 : Int32} (hT : Sh a0 = some (.inl 7)) {r : (Int32 × Mm)} (h : fX7_set n Sh M a0 a1 a2 a3 = some r) : Ct l yX7_set cX7_set 5 (some .int) rmX7_set G Sh M [.ref a0, .int a1, .int a2, .int a3] (some (.int r.1)) r.2 := by
  refine Ct.of (by decide) (Nat.le_of_ble_eq_true rfl) ?_
  intro p e s m args below meth c ls C hK hX hP hS hb hlk hr hl
  replace hl : lv_has ls 5 [(0, .ref a0), (1, .int a1), (2, .int a2), (3, .int a3)] := hl
  have J38 : ∀ (M : Mm) (t0 : Nat) (t1 : Int32) (H : Heap) (locs : List Loc) (ls : Array Slot), HM G Sh M H → SS G s s.heap.size H locs → lv_has ls 5 [(0, .ref a0), (1, .int a1), (2, .int a2), (3, .int a3)] → fX7_set_38 n Sh a0 a1 a2 a3 M t0 t1 = some r → W p l e rmX7_set s m args below meth c H locs 0 0 (MQ below (QG G Sh r.2 (some (.int r.1))) args s rmX7_set.cells rmX7_set.slots (AA G)) (F0 m 38 ls [.int t1, .ref t0]) := by
    intro M t0 t1 H locs ls hP hS hl h
    unfold fX7_set_38 at h
    refine r_pI C hK hP hS cl_7 (k := 5) (by decide) wd_1149 rfl rfl (tyX7_ok 5 (by decide)) dX7_set_38 h (fun M1 H locs h hP hS => ?_)
    refine lv_aload_n C.1 C.2.1 dX7_set_41 rfl (lv_at hl 0 rfl) ?_
    refine r_tI C hK hP hT cl_7 (k := 5) (by decide) wd_1149 rfl dX7_set_42 h (fun x2 h => ?_)
    refine b_eq (tgt := 50) C dX7_set_45 (by decide) h (fun h => ?_) (fun h => ?_)
    · refine lv_aload_n C.1 C.2.1 dX7_set_50 rfl (lv_at hl 0 rfl) ?_
      obtain ⟨r3, hc, h⟩ := bS h
      refine r_V0 C hK hX hb hP hS hl.1 (kX7_keep (hT) hc) hT cl_7 wd_1209 mo_X7_keep wd_1211 wd_27 ⟨Nat.le_of_ble_eq_true rfl, Nat.le_of_ble_eq_true rfl⟩ ⟨Nat.le_of_ble_eq_true rfl, Nat.le_of_ble_eq_true rfl⟩ rfl (rest := []) rfl (Nat.le_of_ble_eq_true rfl) dX7_set_51 (fun H locs hP hS => ?_)
      refine lv_aload_n C.1 C.2.1 dX7_set_54 rfl (lv_at hl 0 rfl) ?_
      refine lv_iload_n C.1 C.2.1 dX7_set_55 rfl (lv_at hl 1 rfl) ?_
      refine lv_iconst (v := 5) C.1 C.2.1 dX7_set_56 (by decide) ?_
      refine lv_iload_n C.1 C.2.1 dX7_set_57 rfl (lv_at hl 2 rfl) ?_
      refine lv_iadd C.1 C.2.1 dX7_set_58 ?_
      obtain ⟨r4, hc, h⟩ := bS h
      refine r_V1 C hK hX hb hP hS hl.1 (kX7_of (hT) hc) hT cl_7 wd_1197 mo_X7_of wd_1199 wd_24 ⟨Nat.le_of_ble_eq_true rfl, Nat.le_of_ble_eq_true rfl⟩ ⟨Nat.le_of_ble_eq_true rfl, Nat.le_of_ble_eq_true rfl⟩ rfl (rest := []) rfl (Nat.le_of_ble_eq_true rfl) dX7_set_59 (fun H locs hP hS => ?_)
      refine lv_istore (lv' := [(4, .int r4), (0, .ref a0), (1, .int a1), (2, .int a2), (3, .int a3)]) C.1 C.2.1 dX7_set_62 hl (by decide) rfl (fun ls hl => ?_)
      refine lv_aload_n C.1 C.2.1 dX7_set_64 rfl (lv_at hl 1 rfl) ?_
      refine lv_iload_n C.1 C.2.1 dX7_set_65 rfl (lv_at hl 2 rfl) ?_
      refine lv_iconst (v := 5) C.1 C.2.1 dX7_set_66 (by decide) ?_
      refine lv_iload_n C.1 C.2.1 dX7_set_67 rfl (lv_at hl 3 rfl) ?_
      refine lv_iadd C.1 C.2.1 dX7_set_68 ?_
      refine lv_iload_n C.1 C.2.1 dX7_set_69 rfl (lv_at hl 4 rfl) ?_
      obtain ⟨r5, hc, h⟩ := bS h
      refine r_V0 C hK hX hb hP hS hl.1 (kX7_put (hT) hc) hT cl_7 wd_1213 mo_X7_put wd_1215 wd_28 ⟨Nat.le_of_ble_eq_true rfl, Nat.le_of_ble_eq_true rfl⟩ ⟨Nat.le_of_ble_eq_true rfl, Nat.le_of_ble_eq_true rfl⟩ rfl (rest := []) rfl (Nat.le_of_ble_eq_true rfl) dX7_set_70 (fun H locs hP hS => ?_)
      refine lv_iload_n C.1 C.2.1 dX7_set_73 rfl (lv_at hl 3 rfl) ?_
      refine b_ne (tgt := 92) C dX7_set_74 (by decide) h (fun h => ?_) (fun h => ?_)
      · refine lv_iload C.1 C.2.1 dX7_set_77 (lv_at hl 0 rfl) ?_
        refine lv_iconst (v := 1) C.1 C.2.1 dX7_set_79 (by decide) ?_
        refine b_ine (tgt := 92) C dX7_set_80 (by decide) h (fun h => ?_) (fun h => ?_)
        · refine lv_iload_n C.1 C.2.1 dX7_set_83 rfl (lv_at hl 4 rfl) ?_
          refine b_ne (tgt := 92) C dX7_set_84 (by decide) h (fun h => ?_) (fun h => ?_)
          · refine lv_aload_n C.1 C.2.1 dX7_set_87 rfl (lv_at hl 1 rfl) ?_
            refine lv_iload_n C.1 C.2.1 dX7_set_88 rfl (lv_at hl 2 rfl) ?_
            obtain ⟨r6, hc, h⟩ := bS h
            refine r_V0 C hK hX hb hP hS hl.1 (kX7_announceChange (hT) hc) hT cl_7 wd_1283 mo_X7_announceChange wd_1285 wd_38 ⟨Nat.le_of_ble_eq_true rfl, Nat.le_of_ble_eq_true rfl⟩ ⟨Nat.le_of_ble_eq_true rfl, Nat.le_of_ble_eq_true rfl⟩ rfl (rest := []) rfl (Nat.le_of_ble_eq_true rfl) dX7_set_89 (fun H locs hP hS => ?_)
            refine lv_iload C.1 C.2.1 dX7_set_92 (lv_at hl 0 rfl) ?_
            have e := Option.some.inj h
            exact q_i C hlk hP hS hr (by rw [← e]) (by rw [← e]) dX7_set_94
          · refine lv_iload C.1 C.2.1 dX7_set_92 (lv_at hl 0 rfl) ?_
            have e := Option.some.inj h
            exact q_i C hlk hP hS hr (by rw [← e]) (by rw [← e]) dX7_set_94
        · refine lv_iload C.1 C.2.1 dX7_set_92 (lv_at hl 0 rfl) ?_
          have e := Option.some.inj h
          exact q_i C hlk hP hS hr (by rw [← e]) (by rw [← e]) dX7_set_94
      · refine lv_iload C.1 C.2.1 dX7_set_92 (lv_at hl 0 rfl) ?_
        have e := Option.some.inj h
        exact q_i C hlk hP hS hr (by rw [← e]) (by rw [← e]) dX7_set_94
    · refine lv_iconst (v := 0) C.1 C.2.1 dX7_set_48 (by decide) ?_
      have e := Option.some.inj h
      exact q_i C hlk hP hS hr (by rw [← e]) (by rw [← e]) dX7_set_49
  have J37 : ∀ (M : Mm) (t0 : Nat) (H : Heap) (locs : List Loc) (ls : Array Slot), HM G Sh M H → SS G s s.heap.size H locs → lv_has ls 5 [(0, .ref a0), (1, .int a1), (2, .int a2), (3, .int a3)] → fX7_set_37 n Sh a0 a1 a2 a3 M t0 = some r → W p l e rmX7_set s m args below meth c H locs 0 0 (MQ below (QG G Sh r.2 (some (.int r.1))) args s rmX7_set.cells rmX7_set.slots (AA G)) (F0 m 37 ls [.ref t0]) := by
    intro M t0 H locs ls hP hS hl h
    unfold fX7_set_37 at h
    refine lv_iconst (v := 0) C.1 C.2.1 dX7_set_37 (by decide) ?_
    exact J38 (M) (t0) (0) _ _ _ hP hS (lv_sub hl [0, 1, 2, 3] rfl) h
  unfold fX7_set at h
  refine lv_aload_n C.1 C.2.1 dX7_set_0 rfl (lv_at hl 0 rfl) ?_
  refine lv_aload_n C.1 C.2.1 dX7_set_1 rfl (lv_at hl 0 rfl) ?_
  refine lv_iload_n C.1 C.2.1 dX7_set_2 rfl (lv_at hl 1 rfl) ?_
  obtain ⟨r7, hc, h⟩ := bS h
  refine r_V1 C hK hX hb hP hS hl.1 (kX7_isNode (hT) hc) hT cl_7 wd_1190 mo_X7_isNode wd_1192 wd_23 ⟨Nat.le_of_ble_eq_true rfl, Nat.le_of_ble_eq_true rfl⟩ ⟨Nat.le_of_ble_eq_true rfl, Nat.le_of_ble_eq_true rfl⟩ rfl (rest := [.ref a0]) rfl (Nat.le_of_ble_eq_true rfl) dX7_set_3 (fun H locs hP hS => ?_)
  refine b_ne (tgt := 13) C dX7_set_6 (by decide) h (fun h => ?_) (fun h => ?_)
  · refine lv_iconst (v := 1) C.1 C.2.1 dX7_set_9 (by decide) ?_
    refine lv_goto (tgt := 38) C.1 C.2.1 dX7_set_10 (by decide) ?_
    exact J38 (M) (a0) (1) _ _ _ hP hS (lv_sub hl [0, 1, 2, 3] rfl) h
  · refine lv_iload_n C.1 C.2.1 dX7_set_13 rfl (lv_at hl 2 rfl) ?_
    refine lv_iload_n C.1 C.2.1 dX7_set_14 rfl (lv_at hl 3 rfl) ?_
    obtain ⟨r8, hc, h⟩ := bS h
    refine r_S1 C hK hX hb hP hS hl.1 (kX7_isSetting hc) wd_1280 mo_X7_isSetting wd_1281 ⟨Nat.le_of_ble_eq_true rfl, Nat.le_of_ble_eq_true rfl⟩ ⟨Nat.le_of_ble_eq_true rfl, Nat.le_of_ble_eq_true rfl⟩ rfl (rest := [.ref a0]) rfl (Nat.le_of_ble_eq_true rfl) dX7_set_15 (fun H locs hP hS => ?_)
    refine b_ne (tgt := 25) C dX7_set_18 (by decide) h (fun h => ?_) (fun h => ?_)
    · refine lv_iconst (v := 2) C.1 C.2.1 dX7_set_21 (by decide) ?_
      refine lv_goto (tgt := 38) C.1 C.2.1 dX7_set_22 (by decide) ?_
      exact J38 (M) (a0) (2) _ _ _ hP hS (lv_sub hl [0, 1, 2, 3] rfl) h
    · refine lv_iload_n C.1 C.2.1 dX7_set_25 rfl (lv_at hl 1 rfl) ?_
      refine b_ne (tgt := 37) C dX7_set_26 (by decide) h (fun h => ?_) (fun h => ?_)
      · refine lv_iload_n C.1 C.2.1 dX7_set_29 rfl (lv_at hl 2 rfl) ?_
        refine b_ne (tgt := 37) C dX7_set_30 (by decide) h (fun h => ?_) (fun h => ?_)
        · refine lv_iconst (v := 3) C.1 C.2.1 dX7_set_33 (by decide) ?_
          refine lv_goto (tgt := 38) C.1 C.2.1 dX7_set_34 (by decide) ?_
          exact J38 (M) (a0) (3) _ _ _ hP hS (lv_sub hl [0, 1, 2, 3] rfl) h
        · exact J37 (M) (a0) _ _ _ hP hS (lv_sub hl [0, 1, 2, 3] rfl) h
      · exact J37 (M) (a0) _ _ _ hP hS (lv_sub hl [0, 1, 2, 3] rfl) h
theorem dX7_takes_0 : decode cX7_takes 0 = .ok (.aload_n 0, 1) := by decide +kernel
theorem dX7_takes_1 : decode cX7_takes 1 = .ok (.iload_n 1, 1) := by decide +kernel
theorem dX7_takes_2 : decode cX7_takes 2 = .ok (.iload_n 2, 1) := by decide +kernel
theorem dX7_takes_3 : decode cX7_takes 3 = .ok (.invokevirtual 40, 3) := by decide +kernel
theorem dX7_takes_6 : decode cX7_takes 6 = .ok (.aload_n 0, 1) := by decide +kernel
theorem dX7_takes_7 : decode cX7_takes 7 = .ok (.getfield 158, 3) := by decide +kernel
theorem dX7_takes_10 : decode cX7_takes 10 = .ok (.if_icmp .eq 7, 3) := by decide +kernel
theorem dX7_takes_13 : decode cX7_takes 13 = .ok (.iconst 1, 1) := by decide +kernel
theorem dX7_takes_14 : decode cX7_takes 14 = .ok (.goto 4, 3) := by decide +kernel
theorem dX7_takes_17 : decode cX7_takes 17 = .ok (.iconst 0, 1) := by decide +kernel
theorem dX7_takes_18 : decode cX7_takes 18 = .ok (.istore 4, 2) := by decide +kernel
theorem dX7_takes_20 : decode cX7_takes 20 = .ok (.iconst 0, 1) := by decide +kernel
theorem dX7_takes_21 : decode cX7_takes 21 = .ok (.istore 5, 2) := by decide +kernel
theorem dX7_takes_23 : decode cX7_takes 23 = .ok (.iload 5, 2) := by decide +kernel
theorem dX7_takes_25 : decode cX7_takes 25 = .ok (.aload_n 0, 1) := by decide +kernel
theorem dX7_takes_26 : decode cX7_takes 26 = .ok (.getfield 158, 3) := by decide +kernel
theorem dX7_takes_29 : decode cX7_takes 29 = .ok (.if_icmp .ge 40, 3) := by decide +kernel
theorem dX7_takes_32 : decode cX7_takes 32 = .ok (.iload 4, 2) := by decide +kernel
theorem dX7_takes_34 : decode cX7_takes 34 = .ok (.ifCond .ne 22, 3) := by decide +kernel
theorem dX7_takes_37 : decode cX7_takes 37 = .ok (.aload_n 0, 1) := by decide +kernel
theorem dX7_takes_38 : decode cX7_takes 38 = .ok (.iload_n 1, 1) := by decide +kernel
theorem dX7_takes_39 : decode cX7_takes 39 = .ok (.iload_n 3, 1) := by decide +kernel
theorem dX7_takes_40 : decode cX7_takes 40 = .ok (.iload 5, 2) := by decide +kernel
theorem dX7_takes_42 : decode cX7_takes 42 = .ok (.iadd, 1) := by decide +kernel
theorem dX7_takes_43 : decode cX7_takes 43 = .ok (.invokevirtual 40, 3) := by decide +kernel
theorem dX7_takes_46 : decode cX7_takes 46 = .ok (.aload_n 0, 1) := by decide +kernel
theorem dX7_takes_47 : decode cX7_takes 47 = .ok (.getfield 16, 3) := by decide +kernel
theorem dX7_takes_50 : decode cX7_takes 50 = .ok (.iload 5, 2) := by decide +kernel
theorem dX7_takes_52 : decode cX7_takes 52 = .ok (.iaload, 1) := by decide +kernel
theorem dX7_takes_53 : decode cX7_takes 53 = .ok (.if_icmp .eq 7, 3) := by decide +kernel
theorem dX7_takes_56 : decode cX7_takes 56 = .ok (.iconst 1, 1) := by decide +kernel
theorem dX7_takes_57 : decode cX7_takes 57 = .ok (.goto 4, 3) := by decide +kernel
theorem dX7_takes_60 : decode cX7_takes 60 = .ok (.iconst 0, 1) := by decide +kernel
theorem dX7_takes_61 : decode cX7_takes 61 = .ok (.istore 4, 2) := by decide +kernel
theorem dX7_takes_63 : decode cX7_takes 63 = .ok (.iinc 5 1, 3) := by decide +kernel
theorem dX7_takes_66 : decode cX7_takes 66 = .ok (.goto (-43), 3) := by decide +kernel
theorem dX7_takes_69 : decode cX7_takes 69 = .ok (.aload_n 0, 1) := by decide +kernel
theorem dX7_takes_70 : decode cX7_takes 70 = .ok (.iload_n 1, 1) := by decide +kernel
theorem dX7_takes_71 : decode cX7_takes 71 = .ok (.iload_n 2, 1) := by decide +kernel
theorem dX7_takes_72 : decode cX7_takes 72 = .ok (.aload_n 0, 1) := by decide +kernel
theorem dX7_takes_73 : decode cX7_takes 73 = .ok (.getfield 158, 3) := by decide +kernel
theorem dX7_takes_76 : decode cX7_takes 76 = .ok (.invokevirtual 54, 3) := by decide +kernel
theorem dX7_takes_79 : decode cX7_takes 79 = .ok (.iconst 0, 1) := by decide +kernel
theorem dX7_takes_80 : decode cX7_takes 80 = .ok (.istore 5, 2) := by decide +kernel
theorem dX7_takes_82 : decode cX7_takes 82 = .ok (.iload 5, 2) := by decide +kernel
theorem dX7_takes_84 : decode cX7_takes 84 = .ok (.aload_n 0, 1) := by decide +kernel
theorem dX7_takes_85 : decode cX7_takes 85 = .ok (.getfield 158, 3) := by decide +kernel
theorem dX7_takes_88 : decode cX7_takes 88 = .ok (.if_icmp .ge 25, 3) := by decide +kernel
theorem dX7_takes_91 : decode cX7_takes 91 = .ok (.aload_n 0, 1) := by decide +kernel
theorem dX7_takes_92 : decode cX7_takes 92 = .ok (.iload_n 1, 1) := by decide +kernel
theorem dX7_takes_93 : decode cX7_takes 93 = .ok (.iload_n 3, 1) := by decide +kernel
theorem dX7_takes_94 : decode cX7_takes 94 = .ok (.iload 5, 2) := by decide +kernel
theorem dX7_takes_96 : decode cX7_takes 96 = .ok (.iadd, 1) := by decide +kernel
theorem dX7_takes_97 : decode cX7_takes 97 = .ok (.aload_n 0, 1) := by decide +kernel
theorem dX7_takes_98 : decode cX7_takes 98 = .ok (.getfield 16, 3) := by decide +kernel
theorem dX7_takes_101 : decode cX7_takes 101 = .ok (.iload 5, 2) := by decide +kernel
theorem dX7_takes_103 : decode cX7_takes 103 = .ok (.iaload, 1) := by decide +kernel
theorem dX7_takes_104 : decode cX7_takes 104 = .ok (.invokevirtual 54, 3) := by decide +kernel
theorem dX7_takes_107 : decode cX7_takes 107 = .ok (.iinc 5 1, 3) := by decide +kernel
theorem dX7_takes_110 : decode cX7_takes 110 = .ok (.goto (-28), 3) := by decide +kernel
theorem dX7_takes_113 : decode cX7_takes 113 = .ok (.iload 4, 2) := by decide +kernel
theorem dX7_takes_115 : decode cX7_takes 115 = .ok (.ireturn, 1) := by decide +kernel
abbrev rmX7_takes : Room := { frames := 2, cells := 0, slots := 0, locals := 63 }
noncomputable def fX7_takes_82b (n : Nat) (Sh : Sp) (a0 : Nat) (a1 : Int32) (a2 : Int32) (a3 : Int32) (M : Mm) (v4 : Int32) (v5 : Int32) : Option ((Int32 × Mm) ⊕ (Int32 × Mm)) :=
  tI M a0 4 fun x1 =>
  if v5 < x1 then
    tF M a0 3 fun b2 =>
    aI Sh M b2 0 v5 fun x3 =>
    (fX7_put n Sh M a0 a1 (a3 + v5) x3).bind fun r4 =>
    some (Sum.inl ((v5 + 1), r4))
  else
    chk (v4 = 0 ∨ v4 = 1) (some (Sum.inr (v4, M)))
noncomputable def fX7_takes_82 (n : Nat) (Sh : Sp) (a0 : Nat) (a1 : Int32) (a2 : Int32) (a3 : Int32) (M : Mm) (v4 : Int32) (v5 : Int32) : Option (Int32 × Mm) :=
  iter n (fun s => fX7_takes_82b n Sh a0 a1 a2 a3 s.2 v4 s.1) (v5, M)
noncomputable def fX7_takes_69 (n : Nat) (Sh : Sp) (a0 : Nat) (a1 : Int32) (a2 : Int32) (a3 : Int32) (M : Mm) (v4 : Int32) : Option (Int32 × Mm) :=
  tI M a0 4 fun x5 =>
  (fX7_put n Sh M a0 a1 a2 x5).bind fun r6 =>
  fX7_takes_82 n Sh a0 a1 a2 a3 r6 v4 0
noncomputable def fX7_takes_61 (n : Nat) (Sh : Sp) (a0 : Nat) (a1 : Int32) (a2 : Int32) (a3 : Int32) (M : Mm) (v5 : Int32) (t0 : Int32) : Option ((Int32 × Int32) ⊕ (Int32 × Mm)) :=
  some (Sum.inl (t0, (v5 + 1)))
noncomputable def fX7_takes_56 (n : Nat) (Sh : Sp) (a0 : Nat) (a1 : Int32) (a2 : Int32) (a3 : Int32) (M : Mm) (v5 : Int32) : Option ((Int32 × Int32) ⊕ (Int32 × Mm)) :=
  fX7_takes_61 n Sh a0 a1 a2 a3 M v5 1
noncomputable def fX7_takes_23b (n : Nat) (Sh : Sp) (a0 : Nat) (a1 : Int32) (a2 : Int32) (a3 : Int32) (M : Mm) (v4 : Int32) (v5 : Int32) : Option ((Int32 × Int32) ⊕ (Int32 × Mm)) :=
  tI M a0 4 fun x7 =>
  if v5 < x7 then
    if v4 = 0 then
      (fX7_of n Sh M a0 a1 (a3 + v5)).bind fun r8 =>
      tF M a0 3 fun b9 =>
      aI Sh M b9 0 v5 fun x10 =>
      if r8 = x10 then
        fX7_takes_61 n Sh a0 a1 a2 a3 M v5 0
      else
        fX7_takes_56 n Sh a0 a1 a2 a3 M v5
    else
      fX7_takes_56 n Sh a0 a1 a2 a3 M v5
  else
    (fX7_takes_69 n Sh a0 a1 a2 a3 M v4).map Sum.inr
noncomputable def fX7_takes_23 (n : Nat) (Sh : Sp) (a0 : Nat) (a1 : Int32) (a2 : Int32) (a3 : Int32) (M : Mm) (v4 : Int32) (v5 : Int32) : Option (Int32 × Mm) :=
  iter n (fun s => fX7_takes_23b n Sh a0 a1 a2 a3 M s.1 s.2) (v4, v5)
noncomputable def fX7_takes_18 (n : Nat) (Sh : Sp) (a0 : Nat) (a1 : Int32) (a2 : Int32) (a3 : Int32) (M : Mm) (t0 : Int32) : Option (Int32 × Mm) :=
  fX7_takes_23 n Sh a0 a1 a2 a3 M t0 0
noncomputable def fX7_takes (n : Nat) (Sh : Sp) (M : Mm) (a0 : Nat) (a1 : Int32) (a2 : Int32) (a3 : Int32) : Option (Int32 × Mm) :=
  (fX7_of n Sh M a0 a1 a2).bind fun r11 =>
  tI M a0 4 fun x12 =>
  if r11 = x12 then
    fX7_takes_18 n Sh a0 a1 a2 a3 M 0
  else
    fX7_takes_18 n Sh a0 a1 a2 a3 M 1
set_option maxRecDepth 100000 in
set_option maxHeartbeats 4000000 in
theorem kX7_takes {l : Launch} {G : Gt} {n : Nat} {Sh : Sp} {M : Mm} {a0 : Nat} {a1 : Int32} {a2 : Int32} {a3 : Int32} (hT : Sh a0 = some (.inl 7)) {r : (Int32 × Mm)} (h : fX7_takes n Sh M a0 a1 a2 a3 = some r) : Ct l yX7_takes cX7_takes 6 (some .boolean) rmX7_takes G Sh M [.ref a0, .int a1, .int a2, .int a3] (some (.int r.1)) r.2 := by
  refine Ct.of (by decide) (Nat.le_of_ble_eq_true rfl) ?_
  intro p e s m args below meth c ls C hK hX hP hS hb hlk hr hl
  replace hl : lv_has ls 6 [(0, .ref a0), (1, .int a1), (2, .int a2), (3, .int a3)] := hl
  have J82 : ∀ (v4 : Int32), ∀ (k : Nat) (v5 : Int32) (M : Mm) (H : Heap) (locs : List Loc) (ls : Array Slot), HM G Sh M H → SS G s s.heap.size H locs → lv_has ls 6 [(0, .ref a0), (1, .int a1), (2, .int a2), (3, .int a3), (4, .int v4), (5, .int v5)] → iter k (fun s => fX7_takes_82b n Sh a0 a1 a2 a3 s.2 v4 s.1) (v5, M) = some r → W p l e rmX7_takes s m args below meth c H locs 0 0 (MQ below (QG G Sh r.2 (some (.int r.1))) args s rmX7_takes.cells rmX7_takes.slots (AA G)) (F0 m 82 ls []) := by
    intro v4 k
    induction k with
    | zero => intro v5 M H locs ls hP hS hl h; exact (iter_0 h).elim
    | succ k ih1 =>
      intro v5 M H locs ls hP hS hl h
      obtain ⟨z1, h, hz1⟩ := iter_some h
      replace h : fX7_takes_82b n Sh a0 a1 a2 a3 M v4 v5 = some z1 := h
      unfold fX7_takes_82b at h
      refine lv_iload C.1 C.2.1 dX7_takes_82 (lv_at hl 5 rfl) ?_
      refine lv_aload_n C.1 C.2.1 dX7_takes_84 rfl (lv_at hl 0 rfl) ?_
      refine r_tI C hK hP hT cl_7 (k := 4) (by decide) wd_1148 rfl dX7_takes_85 h (fun x1 h => ?_)
      refine b_ige (tgt := 113) C dX7_takes_88 (by decide) h (fun h => ?_) (fun h => ?_)
      · refine lv_aload_n C.1 C.2.1 dX7_takes_91 rfl (lv_at hl 0 rfl) ?_
        refine lv_iload_n C.1 C.2.1 dX7_takes_92 rfl (lv_at hl 1 rfl) ?_
        refine lv_iload_n C.1 C.2.1 dX7_takes_93 rfl (lv_at hl 3 rfl) ?_
        refine lv_iload C.1 C.2.1 dX7_takes_94 (lv_at hl 5 rfl) ?_
        refine lv_iadd C.1 C.2.1 dX7_takes_96 ?_
        refine lv_aload_n C.1 C.2.1 dX7_takes_97 rfl (lv_at hl 0 rfl) ?_
        refine r_tF C hK hP hT cl_7 (k := 3) (by decide) wd_1147 rfl dX7_takes_98 h (fun b2 h => ?_)
        refine lv_iload C.1 C.2.1 dX7_takes_101 (lv_at hl 5 rfl) ?_
        refine r_aI C hK hP dX7_takes_103 h (fun x3 h => ?_)
        obtain ⟨r4, hc, h⟩ := bS h
        refine r_V0 C hK hX hb hP hS hl.1 (kX7_put (hT) hc) hT cl_7 wd_1213 mo_X7_put wd_1215 wd_28 ⟨Nat.le_of_ble_eq_true rfl, Nat.le_of_ble_eq_true rfl⟩ ⟨Nat.le_of_ble_eq_true rfl, Nat.le_of_ble_eq_true rfl⟩ rfl (rest := []) rfl (Nat.le_of_ble_eq_true rfl) dX7_takes_104 (fun H locs hP hS => ?_)
        refine lv_iinc (v := (v5 + 1)) (lv' := [(5, .int (v5 + 1)), (0, .ref a0), (1, .int a1), (2, .int a2), (3, .int a3), (4, .int v4)]) C.1 C.2.1 dX7_takes_107 hl (k := 5) rfl rfl (by decide) rfl (fun ls hl => ?_)
        refine lv_goto (tgt := 82) C.1 C.2.1 dX7_takes_110 (by decide) ?_
        have e := Option.some.inj h
        rw [← e] at hz1
        exact ih1 ((v5 + 1)) r4 _ _ _ hP hS (lv_sub hl [1, 2, 3, 4, 5, 0] rfl) (itK_inl hz1)
      · refine lv_iload C.1 C.2.1 dX7_takes_113 (lv_at hl 4 rfl) ?_
        obtain ⟨hzz, h⟩ := chk_some h
        have e := Option.some.inj h
        rw [← e] at hz1
        replace e := itK_inr hz1
        exact q_z C hlk hP hS hr hzz (by rw [← e]) (by rw [← e]) dX7_takes_115
  have J69 : ∀ (M : Mm) (v4 : Int32) (H : Heap) (locs : List Loc) (ls : Array Slot), HM G Sh M H → SS G s s.heap.size H locs → lv_has ls 6 [(0, .ref a0), (1, .int a1), (2, .int a2), (3, .int a3), (4, .int v4)] → fX7_takes_69 n Sh a0 a1 a2 a3 M v4 = some r → W p l e rmX7_takes s m args below meth c H locs 0 0 (MQ below (QG G Sh r.2 (some (.int r.1))) args s rmX7_takes.cells rmX7_takes.slots (AA G)) (F0 m 69 ls []) := by
    intro M v4 H locs ls hP hS hl h
    unfold fX7_takes_69 at h
    refine lv_aload_n C.1 C.2.1 dX7_takes_69 rfl (lv_at hl 0 rfl) ?_
    refine lv_iload_n C.1 C.2.1 dX7_takes_70 rfl (lv_at hl 1 rfl) ?_
    refine lv_iload_n C.1 C.2.1 dX7_takes_71 rfl (lv_at hl 2 rfl) ?_
    refine lv_aload_n C.1 C.2.1 dX7_takes_72 rfl (lv_at hl 0 rfl) ?_
    refine r_tI C hK hP hT cl_7 (k := 4) (by decide) wd_1148 rfl dX7_takes_73 h (fun x5 h => ?_)
    obtain ⟨r6, hc, h⟩ := bS h
    refine r_V0 C hK hX hb hP hS hl.1 (kX7_put (hT) hc) hT cl_7 wd_1213 mo_X7_put wd_1215 wd_28 ⟨Nat.le_of_ble_eq_true rfl, Nat.le_of_ble_eq_true rfl⟩ ⟨Nat.le_of_ble_eq_true rfl, Nat.le_of_ble_eq_true rfl⟩ rfl (rest := []) rfl (Nat.le_of_ble_eq_true rfl) dX7_takes_76 (fun H locs hP hS => ?_)
    refine lv_iconst (v := 0) C.1 C.2.1 dX7_takes_79 (by decide) ?_
    refine lv_istore (lv' := [(5, .int 0), (0, .ref a0), (1, .int a1), (2, .int a2), (3, .int a3), (4, .int v4)]) C.1 C.2.1 dX7_takes_80 hl (by decide) rfl (fun ls hl => ?_)
    exact J82 (v4) n (0) r6 _ _ _ hP hS (lv_sub hl [1, 2, 3, 4, 5, 0] rfl) h
  have J23 : ∀ (M : Mm), ∀ (k : Nat) (v4 : Int32) (v5 : Int32) (H : Heap) (locs : List Loc) (ls : Array Slot), HM G Sh M H → SS G s s.heap.size H locs → lv_has ls 6 [(0, .ref a0), (1, .int a1), (2, .int a2), (3, .int a3), (4, .int v4), (5, .int v5)] → iter k (fun s => fX7_takes_23b n Sh a0 a1 a2 a3 M s.1 s.2) (v4, v5) = some r → W p l e rmX7_takes s m args below meth c H locs 0 0 (MQ below (QG G Sh r.2 (some (.int r.1))) args s rmX7_takes.cells rmX7_takes.slots (AA G)) (F0 m 23 ls []) := by
    intro M k
    induction k with
    | zero => intro v4 v5 H locs ls hP hS hl h; exact (iter_0 h).elim
    | succ k ih1 =>
      intro v4 v5 H locs ls hP hS hl h
      obtain ⟨z1, h, hz1⟩ := iter_some h
      replace h : fX7_takes_23b n Sh a0 a1 a2 a3 M v4 v5 = some z1 := h
      have J61 : ∀ (v5 : Int32) (t0 : Int32) (H : Heap) (locs : List Loc) (ls : Array Slot), HM G Sh M H → SS G s s.heap.size H locs → lv_has ls 6 [(0, .ref a0), (1, .int a1), (2, .int a2), (3, .int a3), (5, .int v5)] → fX7_takes_61 n Sh a0 a1 a2 a3 M v5 t0 = some z1 → W p l e rmX7_takes s m args below meth c H locs 0 0 (MQ below (QG G Sh r.2 (some (.int r.1))) args s rmX7_takes.cells rmX7_takes.slots (AA G)) (F0 m 61 ls [.int t0]) := by
        intro v5 t0 H locs ls hP hS hl h
        unfold fX7_takes_61 at h
        refine lv_istore (lv' := [(4, .int t0), (0, .ref a0), (1, .int a1), (2, .int a2), (3, .int a3), (5, .int v5)]) C.1 C.2.1 dX7_takes_61 hl (by decide) rfl (fun ls hl => ?_)
        refine lv_iinc (v := (v5 + 1)) (lv' := [(5, .int (v5 + 1)), (4, .int t0), (0, .ref a0), (1, .int a1), (2, .int a2), (3, .int a3)]) C.1 C.2.1 dX7_takes_63 hl (k := 5) rfl rfl (by decide) rfl (fun ls hl => ?_)
        refine lv_goto (tgt := 23) C.1 C.2.1 dX7_takes_66 (by decide) ?_
        have e := Option.some.inj h
        rw [← e] at hz1
        exact ih1 (t0) ((v5 + 1)) _ _ _ hP hS (lv_sub hl [2, 3, 4, 5, 1, 0] rfl) (itK_inl hz1)
      have J56 : ∀ (v5 : Int32) (H : Heap) (locs : List Loc) (ls : Array Slot), HM G Sh M H → SS G s s.heap.size H locs → lv_has ls 6 [(0, .ref a0), (1, .int a1), (2, .int a2), (3, .int a3), (5, .int v5)] → fX7_takes_56 n Sh a0 a1 a2 a3 M v5 = some z1 → W p l e rmX7_takes s m args below meth c H locs 0 0 (MQ below (QG G Sh r.2 (some (.int r.1))) args s rmX7_takes.cells rmX7_takes.slots (AA G)) (F0 m 56 ls []) := by
        intro v5 H locs ls hP hS hl h
        unfold fX7_takes_56 at h
        refine lv_iconst (v := 1) C.1 C.2.1 dX7_takes_56 (by decide) ?_
        refine lv_goto (tgt := 61) C.1 C.2.1 dX7_takes_57 (by decide) ?_
        exact J61 (v5) (1) _ _ _ hP hS (lv_sub hl [0, 1, 2, 3, 4] rfl) h
      unfold fX7_takes_23b at h
      refine lv_iload C.1 C.2.1 dX7_takes_23 (lv_at hl 5 rfl) ?_
      refine lv_aload_n C.1 C.2.1 dX7_takes_25 rfl (lv_at hl 0 rfl) ?_
      refine r_tI C hK hP hT cl_7 (k := 4) (by decide) wd_1148 rfl dX7_takes_26 h (fun x7 h => ?_)
      refine b_ige (tgt := 69) C dX7_takes_29 (by decide) h (fun h => ?_) (fun h => ?_)
      · refine lv_iload C.1 C.2.1 dX7_takes_32 (lv_at hl 4 rfl) ?_
        refine b_ne (tgt := 56) C dX7_takes_34 (by decide) h (fun h => ?_) (fun h => ?_)
        · refine lv_aload_n C.1 C.2.1 dX7_takes_37 rfl (lv_at hl 0 rfl) ?_
          refine lv_iload_n C.1 C.2.1 dX7_takes_38 rfl (lv_at hl 1 rfl) ?_
          refine lv_iload_n C.1 C.2.1 dX7_takes_39 rfl (lv_at hl 3 rfl) ?_
          refine lv_iload C.1 C.2.1 dX7_takes_40 (lv_at hl 5 rfl) ?_
          refine lv_iadd C.1 C.2.1 dX7_takes_42 ?_
          obtain ⟨r8, hc, h⟩ := bS h
          refine r_V1 C hK hX hb hP hS hl.1 (kX7_of (hT) hc) hT cl_7 wd_1197 mo_X7_of wd_1199 wd_24 ⟨Nat.le_of_ble_eq_true rfl, Nat.le_of_ble_eq_true rfl⟩ ⟨Nat.le_of_ble_eq_true rfl, Nat.le_of_ble_eq_true rfl⟩ rfl (rest := []) rfl (Nat.le_of_ble_eq_true rfl) dX7_takes_43 (fun H locs hP hS => ?_)
          refine lv_aload_n C.1 C.2.1 dX7_takes_46 rfl (lv_at hl 0 rfl) ?_
          refine r_tF C hK hP hT cl_7 (k := 3) (by decide) wd_1147 rfl dX7_takes_47 h (fun b9 h => ?_)
          refine lv_iload C.1 C.2.1 dX7_takes_50 (lv_at hl 5 rfl) ?_
          refine r_aI C hK hP dX7_takes_52 h (fun x10 h => ?_)
          refine b_ieq (tgt := 60) C dX7_takes_53 (by decide) h (fun h => ?_) (fun h => ?_)
          · refine lv_iconst (v := 0) C.1 C.2.1 dX7_takes_60 (by decide) ?_
            exact J61 (v5) (0) _ _ _ hP hS (lv_sub hl [0, 1, 2, 3, 5] rfl) h
          · exact J56 (v5) _ _ _ hP hS (lv_sub hl [0, 1, 2, 3, 5] rfl) h
        · exact J56 (v5) _ _ _ hP hS (lv_sub hl [0, 1, 2, 3, 5] rfl) h
      · obtain ⟨w1, h, e⟩ := mS h
        rw [← e] at hz1
        replace e := itK_inr hz1
        rw [e] at h
        exact J69 (M) (v4) _ _ _ hP hS (lv_sub hl [0, 1, 2, 3, 4] rfl) h
  have J18 : ∀ (M : Mm) (t0 : Int32) (H : Heap) (locs : List Loc) (ls : Array Slot), HM G Sh M H → SS G s s.heap.size H locs → lv_has ls 6 [(0, .ref a0), (1, .int a1), (2, .int a2), (3, .int a3)] → fX7_takes_18 n Sh a0 a1 a2 a3 M t0 = some r → W p l e rmX7_takes s m args below meth c H locs 0 0 (MQ below (QG G Sh r.2 (some (.int r.1))) args s rmX7_takes.cells rmX7_takes.slots (AA G)) (F0 m 18 ls [.int t0]) := by
    intro M t0 H locs ls hP hS hl h
    unfold fX7_takes_18 at h
    refine lv_istore (lv' := [(4, .int t0), (0, .ref a0), (1, .int a1), (2, .int a2), (3, .int a3)]) C.1 C.2.1 dX7_takes_18 hl (by decide) rfl (fun ls hl => ?_)
    refine lv_iconst (v := 0) C.1 C.2.1 dX7_takes_20 (by decide) ?_
    refine lv_istore (lv' := [(5, .int 0), (4, .int t0), (0, .ref a0), (1, .int a1), (2, .int a2), (3, .int a3)]) C.1 C.2.1 dX7_takes_21 hl (by decide) rfl (fun ls hl => ?_)
    exact J23 (M) n (t0) (0) _ _ _ hP hS (lv_sub hl [2, 3, 4, 5, 1, 0] rfl) h
  unfold fX7_takes at h
  refine lv_aload_n C.1 C.2.1 dX7_takes_0 rfl (lv_at hl 0 rfl) ?_
  refine lv_iload_n C.1 C.2.1 dX7_takes_1 rfl (lv_at hl 1 rfl) ?_
  refine lv_iload_n C.1 C.2.1 dX7_takes_2 rfl (lv_at hl 2 rfl) ?_
  obtain ⟨r11, hc, h⟩ := bS h
  refine r_V1 C hK hX hb hP hS hl.1 (kX7_of (hT) hc) hT cl_7 wd_1197 mo_X7_of wd_1199 wd_24 ⟨Nat.le_of_ble_eq_true rfl, Nat.le_of_ble_eq_true rfl⟩ ⟨Nat.le_of_ble_eq_true rfl, Nat.le_of_ble_eq_true rfl⟩ rfl (rest := []) rfl (Nat.le_of_ble_eq_true rfl) dX7_takes_3 (fun H locs hP hS => ?_)
  refine lv_aload_n C.1 C.2.1 dX7_takes_6 rfl (lv_at hl 0 rfl) ?_
  refine r_tI C hK hP hT cl_7 (k := 4) (by decide) wd_1148 rfl dX7_takes_7 h (fun x12 h => ?_)
  refine b_ieq (tgt := 17) C dX7_takes_10 (by decide) h (fun h => ?_) (fun h => ?_)
  · refine lv_iconst (v := 0) C.1 C.2.1 dX7_takes_17 (by decide) ?_
    exact J18 (M) (0) _ _ _ hP hS (lv_sub hl [0, 1, 2, 3] rfl) h
  · refine lv_iconst (v := 1) C.1 C.2.1 dX7_takes_13 (by decide) ?_
    refine lv_goto (tgt := 18) C.1 C.2.1 dX7_takes_14 (by decide) ?_
    exact J18 (M) (1) _ _ _ hP hS (lv_sub hl [0, 1, 2, 3] rfl) h
