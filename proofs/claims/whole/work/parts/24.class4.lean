theorem dX1_firstOfHighestRank_0 : decode cX1_firstOfHighestRank 0 = .ok (.iconst 0, 1) := by decide +kernel
theorem dX1_firstOfHighestRank_1 : decode cX1_firstOfHighestRank 1 = .ok (.istore_n 1, 1) := by decide +kernel
theorem dX1_firstOfHighestRank_2 : decode cX1_firstOfHighestRank 2 = .ok (.iconst 1, 1) := by decide +kernel
theorem dX1_firstOfHighestRank_3 : decode cX1_firstOfHighestRank 3 = .ok (.istore_n 2, 1) := by decide +kernel
theorem dX1_firstOfHighestRank_4 : decode cX1_firstOfHighestRank 4 = .ok (.iload_n 2, 1) := by decide +kernel
theorem dX1_firstOfHighestRank_5 : decode cX1_firstOfHighestRank 5 = .ok (.aload_n 0, 1) := by decide +kernel
theorem dX1_firstOfHighestRank_6 : decode cX1_firstOfHighestRank 6 = .ok (.getfield 9, 3) := by decide +kernel
theorem dX1_firstOfHighestRank_9 : decode cX1_firstOfHighestRank 9 = .ok (.if_icmp .ge 24, 3) := by decide +kernel
theorem dX1_firstOfHighestRank_12 : decode cX1_firstOfHighestRank 12 = .ok (.aload_n 0, 1) := by decide +kernel
theorem dX1_firstOfHighestRank_13 : decode cX1_firstOfHighestRank 13 = .ok (.iload_n 2, 1) := by decide +kernel
theorem dX1_firstOfHighestRank_14 : decode cX1_firstOfHighestRank 14 = .ok (.invokevirtual 48, 3) := by decide +kernel
theorem dX1_firstOfHighestRank_17 : decode cX1_firstOfHighestRank 17 = .ok (.aload_n 0, 1) := by decide +kernel
theorem dX1_firstOfHighestRank_18 : decode cX1_firstOfHighestRank 18 = .ok (.iload_n 1, 1) := by decide +kernel
theorem dX1_firstOfHighestRank_19 : decode cX1_firstOfHighestRank 19 = .ok (.invokevirtual 48, 3) := by decide +kernel
theorem dX1_firstOfHighestRank_22 : decode cX1_firstOfHighestRank 22 = .ok (.if_icmp .le 5, 3) := by decide +kernel
theorem dX1_firstOfHighestRank_25 : decode cX1_firstOfHighestRank 25 = .ok (.iload_n 2, 1) := by decide +kernel
theorem dX1_firstOfHighestRank_26 : decode cX1_firstOfHighestRank 26 = .ok (.istore_n 1, 1) := by decide +kernel
theorem dX1_firstOfHighestRank_27 : decode cX1_firstOfHighestRank 27 = .ok (.iinc 2 1, 3) := by decide +kernel
theorem dX1_firstOfHighestRank_30 : decode cX1_firstOfHighestRank 30 = .ok (.goto (-26), 3) := by decide +kernel
theorem dX1_firstOfHighestRank_33 : decode cX1_firstOfHighestRank 33 = .ok (.iload_n 1, 1) := by decide +kernel
theorem dX1_firstOfHighestRank_34 : decode cX1_firstOfHighestRank 34 = .ok (.ireturn, 1) := by decide +kernel
abbrev rmX1_firstOfHighestRank : Room := { frames := 3, cells := 0, slots := 0, locals := 82 }
noncomputable def fX1_firstOfHighestRank_27 (n : Nat) (Sh : Sp) (M : Mm) (a0 : Nat) (v1 : Int32) (v2 : Int32) : Option ((Int32 × Int32) ⊕ Int32) :=
  some (Sum.inl (v1, (v2 + 1)))
noncomputable def fX1_firstOfHighestRank_4b (n : Nat) (Sh : Sp) (M : Mm) (a0 : Nat) (v1 : Int32) (v2 : Int32) : Option ((Int32 × Int32) ⊕ Int32) :=
  tI M a0 0 fun x1 =>
  if v2 < x1 then
    (fX1_rankOf n Sh M a0 v2).bind fun r2 =>
    (fX1_rankOf n Sh M a0 v1).bind fun r3 =>
    if r2 ≤ r3 then
      fX1_firstOfHighestRank_27 n Sh M a0 v1 v2
    else
      fX1_firstOfHighestRank_27 n Sh M a0 v2 v2
  else
    some (Sum.inr v1)
noncomputable def fX1_firstOfHighestRank_4 (n : Nat) (Sh : Sp) (M : Mm) (a0 : Nat) (v1 : Int32) (v2 : Int32) : Option Int32 :=
  iter n (fun s => fX1_firstOfHighestRank_4b n Sh M a0 s.1 s.2) (v1, v2)
noncomputable def fX1_firstOfHighestRank (n : Nat) (Sh : Sp) (M : Mm) (a0 : Nat) : Option Int32 :=
  fX1_firstOfHighestRank_4 n Sh M a0 0 1
set_option maxRecDepth 100000 in
set_option maxHeartbeats 4000000 in
theorem kX1_firstOfHighestRank {l : Launch} {G : Gt} {n : Nat} {Sh : Sp} {M : Mm} {a0 : Nat} (hT : Sh a0 = some (.inl 1)) {r : Int32} (h : fX1_firstOfHighestRank n Sh M a0 = some r) : Ct l yX1_firstOfHighestRank cX1_firstOfHighestRank 3 (some .int) rmX1_firstOfHighestRank G Sh M [.ref a0] (some (.int r)) M := by
  refine Ct.of (by decide) (Nat.le_of_ble_eq_true rfl) ?_
  intro p e s m args below meth c ls C hK hX hP hS hb hlk hr hl
  replace hl : lv_has ls 3 [(0, .ref a0)] := hl
  have J4 : ∀ (k : Nat) (v1 : Int32) (v2 : Int32) (H : Heap) (locs : List Loc) (ls : Array Slot), HM G Sh M H → SS G s s.heap.size H locs → lv_has ls 3 [(0, .ref a0), (1, .int v1), (2, .int v2)] → iter k (fun s => fX1_firstOfHighestRank_4b n Sh M a0 s.1 s.2) (v1, v2) = some r → W p l e rmX1_firstOfHighestRank s m args below meth c H locs 0 0 (MQ below (QG G Sh M (some (.int r))) args s rmX1_firstOfHighestRank.cells rmX1_firstOfHighestRank.slots (AA G)) (F0 m 4 ls []) := by
    intro k
    induction k with
    | zero => intro v1 v2 H locs ls hP hS hl h; exact (iter_0 h).elim
    | succ k ih1 =>
      intro v1 v2 H locs ls hP hS hl h
      obtain ⟨z1, h, hz1⟩ := iter_some h
      replace h : fX1_firstOfHighestRank_4b n Sh M a0 v1 v2 = some z1 := h
      have J27 : ∀ (v1 : Int32) (v2 : Int32) (H : Heap) (locs : List Loc) (ls : Array Slot), HM G Sh M H → SS G s s.heap.size H locs → lv_has ls 3 [(0, .ref a0), (1, .int v1), (2, .int v2)] → fX1_firstOfHighestRank_27 n Sh M a0 v1 v2 = some z1 → W p l e rmX1_firstOfHighestRank s m args below meth c H locs 0 0 (MQ below (QG G Sh M (some (.int r))) args s rmX1_firstOfHighestRank.cells rmX1_firstOfHighestRank.slots (AA G)) (F0 m 27 ls []) := by
        intro v1 v2 H locs ls hP hS hl h
        unfold fX1_firstOfHighestRank_27 at h
        refine lv_iinc (v := (v2 + 1)) (lv' := [(2, .int (v2 + 1)), (0, .ref a0), (1, .int v1)]) C.1 C.2.1 dX1_firstOfHighestRank_27 hl (k := 2) rfl rfl (by decide) rfl (fun ls hl => ?_)
        refine lv_goto (tgt := 4) C.1 C.2.1 dX1_firstOfHighestRank_30 (by decide) ?_
        have e := Option.some.inj h
        rw [← e] at hz1
        exact ih1 (v1) ((v2 + 1)) _ _ _ hP hS (lv_sub hl [1, 2, 0] rfl) (itK_inl hz1)
      unfold fX1_firstOfHighestRank_4b at h
      refine lv_iload_n C.1 C.2.1 dX1_firstOfHighestRank_4 rfl (lv_at hl 2 rfl) ?_
      refine lv_aload_n C.1 C.2.1 dX1_firstOfHighestRank_5 rfl (lv_at hl 0 rfl) ?_
      refine r_tI C hK hP hT cl_1 (k := 0) (by decide) wd_189 rfl dX1_firstOfHighestRank_6 h (fun x1 h => ?_)
      refine b_ige (tgt := 33) C dX1_firstOfHighestRank_9 (by decide) h (fun h => ?_) (fun h => ?_)
      · refine lv_aload_n C.1 C.2.1 dX1_firstOfHighestRank_12 rfl (lv_at hl 0 rfl) ?_
        refine lv_iload_n C.1 C.2.1 dX1_firstOfHighestRank_13 rfl (lv_at hl 2 rfl) ?_
        obtain ⟨r2, hc, h⟩ := bS h
        refine r_V1 C hK hX hb hP hS hl.1 (kX1_rankOf (hT) hc) hT cl_1 wd_441 mo_X1_rankOf wd_442 wd_443 ⟨Nat.le_of_ble_eq_true rfl, Nat.le_of_ble_eq_true rfl⟩ ⟨Nat.le_of_ble_eq_true rfl, Nat.le_of_ble_eq_true rfl⟩ rfl (rest := []) rfl (Nat.le_of_ble_eq_true rfl) dX1_firstOfHighestRank_14 (fun H locs hP hS => ?_)
        refine lv_aload_n C.1 C.2.1 dX1_firstOfHighestRank_17 rfl (lv_at hl 0 rfl) ?_
        refine lv_iload_n C.1 C.2.1 dX1_firstOfHighestRank_18 rfl (lv_at hl 1 rfl) ?_
        obtain ⟨r3, hc, h⟩ := bS h
        refine r_V1 C hK hX hb hP hS hl.1 (kX1_rankOf (hT) hc) hT cl_1 wd_441 mo_X1_rankOf wd_442 wd_443 ⟨Nat.le_of_ble_eq_true rfl, Nat.le_of_ble_eq_true rfl⟩ ⟨Nat.le_of_ble_eq_true rfl, Nat.le_of_ble_eq_true rfl⟩ rfl (rest := [.int r2]) rfl (Nat.le_of_ble_eq_true rfl) dX1_firstOfHighestRank_19 (fun H locs hP hS => ?_)
        refine b_ile (tgt := 27) C dX1_firstOfHighestRank_22 (by decide) h (fun h => ?_) (fun h => ?_)
        · exact J27 (v1) (v2) _ _ _ hP hS (lv_sub hl [0, 1, 2] rfl) h
        · refine lv_iload_n C.1 C.2.1 dX1_firstOfHighestRank_25 rfl (lv_at hl 2 rfl) ?_
          refine lv_istore_n (lv' := [(1, .int v2), (0, .ref a0), (2, .int v2)]) C.1 C.2.1 dX1_firstOfHighestRank_26 rfl hl (by decide) rfl (fun ls hl => ?_)
          exact J27 (v2) (v2) _ _ _ hP hS (lv_sub hl [1, 0, 2] rfl) h
      · refine lv_iload_n C.1 C.2.1 dX1_firstOfHighestRank_33 rfl (lv_at hl 1 rfl) ?_
        have e := Option.some.inj h
        rw [← e] at hz1
        replace e := itK_inr hz1
        exact q_i C hlk hP hS hr (by rw [← e]) rfl dX1_firstOfHighestRank_34
  unfold fX1_firstOfHighestRank at h
  refine lv_iconst (v := 0) C.1 C.2.1 dX1_firstOfHighestRank_0 (by decide) ?_
  refine lv_istore_n (lv' := [(1, .int 0), (0, .ref a0)]) C.1 C.2.1 dX1_firstOfHighestRank_1 rfl hl (by decide) rfl (fun ls hl => ?_)
  refine lv_iconst (v := 1) C.1 C.2.1 dX1_firstOfHighestRank_2 (by decide) ?_
  refine lv_istore_n (lv' := [(2, .int 1), (1, .int 0), (0, .ref a0)]) C.1 C.2.1 dX1_firstOfHighestRank_3 rfl hl (by decide) rfl (fun ls hl => ?_)
  exact J4  n (0) (1) _ _ _ hP hS (lv_sub hl [2, 1, 0] rfl) h
theorem dX1_drop_0 : decode cX1_drop 0 = .ok (.aload_n 0, 1) := by decide +kernel
theorem dX1_drop_1 : decode cX1_drop 1 = .ok (.iload_n 1, 1) := by decide +kernel
theorem dX1_drop_2 : decode cX1_drop 2 = .ok (.invokevirtual 44, 3) := by decide +kernel
theorem dX1_drop_5 : decode cX1_drop 5 = .ok (.ifCond .ne 4, 3) := by decide +kernel
theorem dX1_drop_8 : decode cX1_drop 8 = .ok (.return_, 1) := by decide +kernel
theorem dX1_drop_9 : decode cX1_drop 9 = .ok (.aload_n 0, 1) := by decide +kernel
theorem dX1_drop_10 : decode cX1_drop 10 = .ok (.getfield 27, 3) := by decide +kernel
theorem dX1_drop_13 : decode cX1_drop 13 = .ok (.iload_n 1, 1) := by decide +kernel
theorem dX1_drop_14 : decode cX1_drop 14 = .ok (.aaload, 1) := by decide +kernel
theorem dX1_drop_15 : decode cX1_drop 15 = .ok (.astore_n 2, 1) := by decide +kernel
theorem dX1_drop_16 : decode cX1_drop 16 = .ok (.iload_n 1, 1) := by decide +kernel
theorem dX1_drop_17 : decode cX1_drop 17 = .ok (.iconst 1, 1) := by decide +kernel
theorem dX1_drop_18 : decode cX1_drop 18 = .ok (.iadd, 1) := by decide +kernel
theorem dX1_drop_19 : decode cX1_drop 19 = .ok (.istore_n 3, 1) := by decide +kernel
theorem dX1_drop_20 : decode cX1_drop 20 = .ok (.iload_n 3, 1) := by decide +kernel
theorem dX1_drop_21 : decode cX1_drop 21 = .ok (.aload_n 0, 1) := by decide +kernel
theorem dX1_drop_22 : decode cX1_drop 22 = .ok (.getfield 9, 3) := by decide +kernel
theorem dX1_drop_25 : decode cX1_drop 25 = .ok (.if_icmp .ge 65, 3) := by decide +kernel
theorem dX1_drop_28 : decode cX1_drop 28 = .ok (.aload_n 0, 1) := by decide +kernel
theorem dX1_drop_29 : decode cX1_drop 29 = .ok (.getfield 15, 3) := by decide +kernel
theorem dX1_drop_32 : decode cX1_drop 32 = .ok (.iload_n 3, 1) := by decide +kernel
theorem dX1_drop_33 : decode cX1_drop 33 = .ok (.iconst 1, 1) := by decide +kernel
theorem dX1_drop_34 : decode cX1_drop 34 = .ok (.isub, 1) := by decide +kernel
theorem dX1_drop_35 : decode cX1_drop 35 = .ok (.aload_n 0, 1) := by decide +kernel
theorem dX1_drop_36 : decode cX1_drop 36 = .ok (.getfield 15, 3) := by decide +kernel
theorem dX1_drop_39 : decode cX1_drop 39 = .ok (.iload_n 3, 1) := by decide +kernel
theorem dX1_drop_40 : decode cX1_drop 40 = .ok (.iaload, 1) := by decide +kernel
theorem dX1_drop_41 : decode cX1_drop 41 = .ok (.iastore, 1) := by decide +kernel
theorem dX1_drop_42 : decode cX1_drop 42 = .ok (.aload_n 0, 1) := by decide +kernel
theorem dX1_drop_43 : decode cX1_drop 43 = .ok (.getfield 19, 3) := by decide +kernel
theorem dX1_drop_46 : decode cX1_drop 46 = .ok (.iload_n 3, 1) := by decide +kernel
theorem dX1_drop_47 : decode cX1_drop 47 = .ok (.iconst 1, 1) := by decide +kernel
theorem dX1_drop_48 : decode cX1_drop 48 = .ok (.isub, 1) := by decide +kernel
theorem dX1_drop_49 : decode cX1_drop 49 = .ok (.aload_n 0, 1) := by decide +kernel
theorem dX1_drop_50 : decode cX1_drop 50 = .ok (.getfield 19, 3) := by decide +kernel
theorem dX1_drop_53 : decode cX1_drop 53 = .ok (.iload_n 3, 1) := by decide +kernel
theorem dX1_drop_54 : decode cX1_drop 54 = .ok (.iaload, 1) := by decide +kernel
theorem dX1_drop_55 : decode cX1_drop 55 = .ok (.iastore, 1) := by decide +kernel
theorem dX1_drop_56 : decode cX1_drop 56 = .ok (.aload_n 0, 1) := by decide +kernel
theorem dX1_drop_57 : decode cX1_drop 57 = .ok (.getfield 22, 3) := by decide +kernel
theorem dX1_drop_60 : decode cX1_drop 60 = .ok (.iload_n 3, 1) := by decide +kernel
theorem dX1_drop_61 : decode cX1_drop 61 = .ok (.iconst 1, 1) := by decide +kernel
theorem dX1_drop_62 : decode cX1_drop 62 = .ok (.isub, 1) := by decide +kernel
theorem dX1_drop_63 : decode cX1_drop 63 = .ok (.aload_n 0, 1) := by decide +kernel
theorem dX1_drop_64 : decode cX1_drop 64 = .ok (.getfield 22, 3) := by decide +kernel
theorem dX1_drop_67 : decode cX1_drop 67 = .ok (.iload_n 3, 1) := by decide +kernel
theorem dX1_drop_68 : decode cX1_drop 68 = .ok (.iaload, 1) := by decide +kernel
theorem dX1_drop_69 : decode cX1_drop 69 = .ok (.iastore, 1) := by decide +kernel
theorem dX1_drop_70 : decode cX1_drop 70 = .ok (.aload_n 0, 1) := by decide +kernel
theorem dX1_drop_71 : decode cX1_drop 71 = .ok (.getfield 27, 3) := by decide +kernel
theorem dX1_drop_74 : decode cX1_drop 74 = .ok (.iload_n 3, 1) := by decide +kernel
theorem dX1_drop_75 : decode cX1_drop 75 = .ok (.iconst 1, 1) := by decide +kernel
theorem dX1_drop_76 : decode cX1_drop 76 = .ok (.isub, 1) := by decide +kernel
theorem dX1_drop_77 : decode cX1_drop 77 = .ok (.aload_n 0, 1) := by decide +kernel
theorem dX1_drop_78 : decode cX1_drop 78 = .ok (.getfield 27, 3) := by decide +kernel
theorem dX1_drop_81 : decode cX1_drop 81 = .ok (.iload_n 3, 1) := by decide +kernel
theorem dX1_drop_82 : decode cX1_drop 82 = .ok (.aaload, 1) := by decide +kernel
theorem dX1_drop_83 : decode cX1_drop 83 = .ok (.aastore, 1) := by decide +kernel
theorem dX1_drop_84 : decode cX1_drop 84 = .ok (.iinc 3 1, 3) := by decide +kernel
theorem dX1_drop_87 : decode cX1_drop 87 = .ok (.goto (-67), 3) := by decide +kernel
theorem dX1_drop_90 : decode cX1_drop 90 = .ok (.aload_n 0, 1) := by decide +kernel
theorem dX1_drop_91 : decode cX1_drop 91 = .ok (.getfield 27, 3) := by decide +kernel
theorem dX1_drop_94 : decode cX1_drop 94 = .ok (.aload_n 0, 1) := by decide +kernel
theorem dX1_drop_95 : decode cX1_drop 95 = .ok (.getfield 9, 3) := by decide +kernel
theorem dX1_drop_98 : decode cX1_drop 98 = .ok (.iconst 1, 1) := by decide +kernel
theorem dX1_drop_99 : decode cX1_drop 99 = .ok (.isub, 1) := by decide +kernel
theorem dX1_drop_100 : decode cX1_drop 100 = .ok (.aload_n 2, 1) := by decide +kernel
theorem dX1_drop_101 : decode cX1_drop 101 = .ok (.aastore, 1) := by decide +kernel
theorem dX1_drop_102 : decode cX1_drop 102 = .ok (.aload_n 0, 1) := by decide +kernel
theorem dX1_drop_103 : decode cX1_drop 103 = .ok (.dup, 1) := by decide +kernel
theorem dX1_drop_104 : decode cX1_drop 104 = .ok (.getfield 9, 3) := by decide +kernel
theorem dX1_drop_107 : decode cX1_drop 107 = .ok (.iconst 1, 1) := by decide +kernel
theorem dX1_drop_108 : decode cX1_drop 108 = .ok (.isub, 1) := by decide +kernel
theorem dX1_drop_109 : decode cX1_drop 109 = .ok (.putfield 9, 3) := by decide +kernel
theorem dX1_drop_112 : decode cX1_drop 112 = .ok (.return_, 1) := by decide +kernel
abbrev rmX1_drop : Room := { frames := 2, cells := 0, slots := 0, locals := 61 }
noncomputable def fX1_drop_90 (n : Nat) (Sh : Sp) (a0 : Nat) (a1 : Int32) (M : Mm) (v2 : Nat) : Option Mm :=
  tF M a0 4 fun b1 =>
  tI M a0 0 fun x2 =>
  sR Sh M b1 4 5 (x2 - 1) v2 fun M3 =>
  tI M3 a0 0 fun x4 =>
  qI M3 a0 0 (x4 - 1) fun M5 =>
  some M5
noncomputable def fX1_drop_20b (n : Nat) (Sh : Sp) (a0 : Nat) (a1 : Int32) (M : Mm) (v2 : Nat) (v3 : Int32) : Option ((Int32 × Mm) ⊕ Mm) :=
  tI M a0 0 fun x6 =>
  if v3 < x6 then
    tF M a0 1 fun b7 =>
    tF M a0 1 fun b8 =>
    aI Sh M b8 0 v3 fun x9 =>
    sI Sh M b7 (v3 - 1) x9 fun M10 =>
    tF M10 a0 2 fun b11 =>
    tF M10 a0 2 fun b12 =>
    aI Sh M10 b12 0 v3 fun x13 =>
    sI Sh M10 b11 (v3 - 1) x13 fun M14 =>
    tF M14 a0 3 fun b15 =>
    tF M14 a0 3 fun b16 =>
    aI Sh M14 b16 0 v3 fun x17 =>
    sI Sh M14 b15 (v3 - 1) x17 fun M18 =>
    tF M18 a0 4 fun b19 =>
    tF M18 a0 4 fun b20 =>
    aR Sh M18 b20 4 v3 fun b21 =>
    sR Sh M18 b19 4 5 (v3 - 1) b21 fun M22 =>
    some (Sum.inl ((v3 + 1), M22))
  else
    (fX1_drop_90 n Sh a0 a1 M v2).map Sum.inr
noncomputable def fX1_drop_20 (n : Nat) (Sh : Sp) (a0 : Nat) (a1 : Int32) (M : Mm) (v2 : Nat) (v3 : Int32) : Option Mm :=
  iter n (fun s => fX1_drop_20b n Sh a0 a1 s.2 v2 s.1) (v3, M)
noncomputable def fX1_drop (n : Nat) (Sh : Sp) (M : Mm) (a0 : Nat) (a1 : Int32) : Option Mm :=
  (fX1_has n Sh M a0 a1).bind fun r23 =>
  if r23 = 0 then
    some M
  else
    tF M a0 4 fun b24 =>
    aR Sh M b24 4 a1 fun b25 =>
    fX1_drop_20 n Sh a0 a1 M b25 (a1 + 1)
set_option maxRecDepth 100000 in
set_option maxHeartbeats 4000000 in
theorem kX1_drop {l : Launch} {G : Gt} {n : Nat} {Sh : Sp} {M : Mm} {a0 : Nat} {a1 : Int32} (hT : Sh a0 = some (.inl 1)) {r : Mm} (h : fX1_drop n Sh M a0 a1 = some r) : Ct l yX1_drop cX1_drop 4 none rmX1_drop G Sh M [.ref a0, .int a1] none r := by
  refine Ct.of (by decide) (Nat.le_of_ble_eq_true rfl) ?_
  intro p e s m args below meth c ls C hK hX hP hS hb hlk hr hl
  replace hl : lv_has ls 4 [(0, .ref a0), (1, .int a1)] := hl
  have J90 : ∀ (M : Mm) (v2 : Nat) (H : Heap) (locs : List Loc) (ls : Array Slot), HM G Sh M H → SS G s s.heap.size H locs → lv_has ls 4 [(0, .ref a0), (1, .int a1), (2, .ref v2)] → fX1_drop_90 n Sh a0 a1 M v2 = some r → W p l e rmX1_drop s m args below meth c H locs 0 0 (MQ below (QG G Sh r none) args s rmX1_drop.cells rmX1_drop.slots (AA G)) (F0 m 90 ls []) := by
    intro M v2 H locs ls hP hS hl h
    unfold fX1_drop_90 at h
    refine lv_aload_n C.1 C.2.1 dX1_drop_90 rfl (lv_at hl 0 rfl) ?_
    refine r_tF C hK hP hT cl_1 (k := 4) (by decide) wd_194 rfl dX1_drop_91 h (fun b1 h => ?_)
    refine lv_aload_n C.1 C.2.1 dX1_drop_94 rfl (lv_at hl 0 rfl) ?_
    refine r_tI C hK hP hT cl_1 (k := 0) (by decide) wd_189 rfl dX1_drop_95 h (fun x2 h => ?_)
    refine lv_iconst (v := 1) C.1 C.2.1 dX1_drop_98 (by decide) ?_
    refine lv_isub C.1 C.2.1 dX1_drop_99 ?_
    refine lv_aload_n C.1 C.2.1 dX1_drop_100 rfl (lv_at hl 2 rfl) ?_
    refine r_sR C hK hP hS (ti := 4) (by decide) cl_5 rfl dX1_drop_101 h (fun M3 H locs h hP hS => ?_)
    refine lv_aload_n C.1 C.2.1 dX1_drop_102 rfl (lv_at hl 0 rfl) ?_
    refine lv_dup C.1 C.2.1 dX1_drop_103 rfl ?_
    refine r_tI C hK hP hT cl_1 (k := 0) (by decide) wd_189 rfl dX1_drop_104 h (fun x4 h => ?_)
    refine lv_iconst (v := 1) C.1 C.2.1 dX1_drop_107 (by decide) ?_
    refine lv_isub C.1 C.2.1 dX1_drop_108 ?_
    refine r_qI C hK hP hS hT cl_1 (k := 0) (by decide) wd_189 rfl rfl (tyX1_ok 0 (by decide)) dX1_drop_109 h (fun M5 H locs h hP hS => ?_)
    have e := Option.some.inj h
    exact q_v C hlk hP hS hr rfl e.symm dX1_drop_112
  have J20 : ∀ (v2 : Nat), ∀ (k : Nat) (v3 : Int32) (M : Mm) (H : Heap) (locs : List Loc) (ls : Array Slot), HM G Sh M H → SS G s s.heap.size H locs → lv_has ls 4 [(0, .ref a0), (1, .int a1), (2, .ref v2), (3, .int v3)] → iter k (fun s => fX1_drop_20b n Sh a0 a1 s.2 v2 s.1) (v3, M) = some r → W p l e rmX1_drop s m args below meth c H locs 0 0 (MQ below (QG G Sh r none) args s rmX1_drop.cells rmX1_drop.slots (AA G)) (F0 m 20 ls []) := by
    intro v2 k
    induction k with
    | zero => intro v3 M H locs ls hP hS hl h; exact (iter_0 h).elim
    | succ k ih1 =>
      intro v3 M H locs ls hP hS hl h
      obtain ⟨z1, h, hz1⟩ := iter_some h
      replace h : fX1_drop_20b n Sh a0 a1 M v2 v3 = some z1 := h
      unfold fX1_drop_20b at h
      refine lv_iload_n C.1 C.2.1 dX1_drop_20 rfl (lv_at hl 3 rfl) ?_
      refine lv_aload_n C.1 C.2.1 dX1_drop_21 rfl (lv_at hl 0 rfl) ?_
      refine r_tI C hK hP hT cl_1 (k := 0) (by decide) wd_189 rfl dX1_drop_22 h (fun x6 h => ?_)
      refine b_ige (tgt := 90) C dX1_drop_25 (by decide) h (fun h => ?_) (fun h => ?_)
      · refine lv_aload_n C.1 C.2.1 dX1_drop_28 rfl (lv_at hl 0 rfl) ?_
        refine r_tF C hK hP hT cl_1 (k := 1) (by decide) wd_191 rfl dX1_drop_29 h (fun b7 h => ?_)
        refine lv_iload_n C.1 C.2.1 dX1_drop_32 rfl (lv_at hl 3 rfl) ?_
        refine lv_iconst (v := 1) C.1 C.2.1 dX1_drop_33 (by decide) ?_
        refine lv_isub C.1 C.2.1 dX1_drop_34 ?_
        refine lv_aload_n C.1 C.2.1 dX1_drop_35 rfl (lv_at hl 0 rfl) ?_
        refine r_tF C hK hP hT cl_1 (k := 1) (by decide) wd_191 rfl dX1_drop_36 h (fun b8 h => ?_)
        refine lv_iload_n C.1 C.2.1 dX1_drop_39 rfl (lv_at hl 3 rfl) ?_
        refine r_aI C hK hP dX1_drop_40 h (fun x9 h => ?_)
        refine r_sI C hK hP hS dX1_drop_41 h (fun M10 H locs h hP hS => ?_)
        refine lv_aload_n C.1 C.2.1 dX1_drop_42 rfl (lv_at hl 0 rfl) ?_
        refine r_tF C hK hP hT cl_1 (k := 2) (by decide) wd_192 rfl dX1_drop_43 h (fun b11 h => ?_)
        refine lv_iload_n C.1 C.2.1 dX1_drop_46 rfl (lv_at hl 3 rfl) ?_
        refine lv_iconst (v := 1) C.1 C.2.1 dX1_drop_47 (by decide) ?_
        refine lv_isub C.1 C.2.1 dX1_drop_48 ?_
        refine lv_aload_n C.1 C.2.1 dX1_drop_49 rfl (lv_at hl 0 rfl) ?_
        refine r_tF C hK hP hT cl_1 (k := 2) (by decide) wd_192 rfl dX1_drop_50 h (fun b12 h => ?_)
        refine lv_iload_n C.1 C.2.1 dX1_drop_53 rfl (lv_at hl 3 rfl) ?_
        refine r_aI C hK hP dX1_drop_54 h (fun x13 h => ?_)
        refine r_sI C hK hP hS dX1_drop_55 h (fun M14 H locs h hP hS => ?_)
        refine lv_aload_n C.1 C.2.1 dX1_drop_56 rfl (lv_at hl 0 rfl) ?_
        refine r_tF C hK hP hT cl_1 (k := 3) (by decide) wd_193 rfl dX1_drop_57 h (fun b15 h => ?_)
        refine lv_iload_n C.1 C.2.1 dX1_drop_60 rfl (lv_at hl 3 rfl) ?_
        refine lv_iconst (v := 1) C.1 C.2.1 dX1_drop_61 (by decide) ?_
        refine lv_isub C.1 C.2.1 dX1_drop_62 ?_
        refine lv_aload_n C.1 C.2.1 dX1_drop_63 rfl (lv_at hl 0 rfl) ?_
        refine r_tF C hK hP hT cl_1 (k := 3) (by decide) wd_193 rfl dX1_drop_64 h (fun b16 h => ?_)
        refine lv_iload_n C.1 C.2.1 dX1_drop_67 rfl (lv_at hl 3 rfl) ?_
        refine r_aI C hK hP dX1_drop_68 h (fun x17 h => ?_)
        refine r_sI C hK hP hS dX1_drop_69 h (fun M18 H locs h hP hS => ?_)
        refine lv_aload_n C.1 C.2.1 dX1_drop_70 rfl (lv_at hl 0 rfl) ?_
        refine r_tF C hK hP hT cl_1 (k := 4) (by decide) wd_194 rfl dX1_drop_71 h (fun b19 h => ?_)
        refine lv_iload_n C.1 C.2.1 dX1_drop_74 rfl (lv_at hl 3 rfl) ?_
        refine lv_iconst (v := 1) C.1 C.2.1 dX1_drop_75 (by decide) ?_
        refine lv_isub C.1 C.2.1 dX1_drop_76 ?_
        refine lv_aload_n C.1 C.2.1 dX1_drop_77 rfl (lv_at hl 0 rfl) ?_
        refine r_tF C hK hP hT cl_1 (k := 4) (by decide) wd_194 rfl dX1_drop_78 h (fun b20 h => ?_)
        refine lv_iload_n C.1 C.2.1 dX1_drop_81 rfl (lv_at hl 3 rfl) ?_
        refine r_aR4 C hK hP dX1_drop_82 h (fun b21 h => ?_)
        refine r_sR C hK hP hS (ti := 4) (by decide) cl_5 rfl dX1_drop_83 h (fun M22 H locs h hP hS => ?_)
        refine lv_iinc (v := (v3 + 1)) (lv' := [(3, .int (v3 + 1)), (0, .ref a0), (1, .int a1), (2, .ref v2)]) C.1 C.2.1 dX1_drop_84 hl (k := 3) rfl rfl (by decide) rfl (fun ls hl => ?_)
        refine lv_goto (tgt := 20) C.1 C.2.1 dX1_drop_87 (by decide) ?_
        have e := Option.some.inj h
        rw [← e] at hz1
        exact ih1 ((v3 + 1)) M22 _ _ _ hP hS (lv_sub hl [1, 2, 3, 0] rfl) (itK_inl hz1)
      · obtain ⟨w1, h, e⟩ := mS h
        rw [← e] at hz1
        replace e := itK_inr hz1
        rw [e] at h
        exact J90 (M) (v2) _ _ _ hP hS (lv_sub hl [0, 1, 2] rfl) h
  unfold fX1_drop at h
  refine lv_aload_n C.1 C.2.1 dX1_drop_0 rfl (lv_at hl 0 rfl) ?_
  refine lv_iload_n C.1 C.2.1 dX1_drop_1 rfl (lv_at hl 1 rfl) ?_
  obtain ⟨r23, hc, h⟩ := bS h
  refine r_V1 C hK hX hb hP hS hl.1 (kX1_has (hT) hc) hT cl_1 wd_445 mo_X1_has wd_446 wd_447 ⟨Nat.le_of_ble_eq_true rfl, Nat.le_of_ble_eq_true rfl⟩ ⟨Nat.le_of_ble_eq_true rfl, Nat.le_of_ble_eq_true rfl⟩ rfl (rest := []) rfl (Nat.le_of_ble_eq_true rfl) dX1_drop_2 (fun H locs hP hS => ?_)
  refine b_ne (tgt := 9) C dX1_drop_5 (by decide) h (fun h => ?_) (fun h => ?_)
  · have e := Option.some.inj h
    exact q_v C hlk hP hS hr rfl e.symm dX1_drop_8
  · refine lv_aload_n C.1 C.2.1 dX1_drop_9 rfl (lv_at hl 0 rfl) ?_
    refine r_tF C hK hP hT cl_1 (k := 4) (by decide) wd_194 rfl dX1_drop_10 h (fun b24 h => ?_)
    refine lv_iload_n C.1 C.2.1 dX1_drop_13 rfl (lv_at hl 1 rfl) ?_
    refine r_aR4 C hK hP dX1_drop_14 h (fun b25 h => ?_)
    refine lv_astore_n (lv' := [(2, .ref b25), (0, .ref a0), (1, .int a1)]) C.1 C.2.1 dX1_drop_15 rfl hl (by decide) rfl (fun ls hl => ?_)
    refine lv_iload_n C.1 C.2.1 dX1_drop_16 rfl (lv_at hl 2 rfl) ?_
    refine lv_iconst (v := 1) C.1 C.2.1 dX1_drop_17 (by decide) ?_
    refine lv_iadd C.1 C.2.1 dX1_drop_18 ?_
    refine lv_istore_n (lv' := [(3, .int (a1 + 1)), (2, .ref b25), (0, .ref a0), (1, .int a1)]) C.1 C.2.1 dX1_drop_19 rfl hl (by decide) rfl (fun ls hl => ?_)
    exact J20 (b25) n ((a1 + 1)) M _ _ _ hP hS (lv_sub hl [2, 3, 1, 0] rfl) h
theorem dX1_append_0 : decode cX1_append 0 = .ok (.aload_n 0, 1) := by decide +kernel
theorem dX1_append_1 : decode cX1_append 1 = .ok (.getfield 9, 3) := by decide +kernel
theorem dX1_append_4 : decode cX1_append 4 = .ok (.bipush 10, 2) := by decide +kernel
theorem dX1_append_6 : decode cX1_append 6 = .ok (.if_icmp .lt 11, 3) := by decide +kernel
theorem dX1_append_9 : decode cX1_append 9 = .ok (.aload_n 0, 1) := by decide +kernel
theorem dX1_append_10 : decode cX1_append 10 = .ok (.aload_n 0, 1) := by decide +kernel
theorem dX1_append_11 : decode cX1_append 11 = .ok (.invokevirtual 64, 3) := by decide +kernel
theorem dX1_append_14 : decode cX1_append 14 = .ok (.invokevirtual 68, 3) := by decide +kernel
theorem dX1_append_17 : decode cX1_append 17 = .ok (.aload_n 0, 1) := by decide +kernel
theorem dX1_append_18 : decode cX1_append 18 = .ok (.getfield 9, 3) := by decide +kernel
theorem dX1_append_21 : decode cX1_append 21 = .ok (.ifCond .lt 12, 3) := by decide +kernel
theorem dX1_append_24 : decode cX1_append 24 = .ok (.aload_n 0, 1) := by decide +kernel
theorem dX1_append_25 : decode cX1_append 25 = .ok (.getfield 9, 3) := by decide +kernel
theorem dX1_append_28 : decode cX1_append 28 = .ok (.bipush 10, 2) := by decide +kernel
theorem dX1_append_30 : decode cX1_append 30 = .ok (.if_icmp .lt 4, 3) := by decide +kernel
theorem dX1_append_33 : decode cX1_append 33 = .ok (.return_, 1) := by decide +kernel
theorem dX1_append_34 : decode cX1_append 34 = .ok (.aload_n 0, 1) := by decide +kernel
theorem dX1_append_35 : decode cX1_append 35 = .ok (.getfield 15, 3) := by decide +kernel
theorem dX1_append_38 : decode cX1_append 38 = .ok (.aload_n 0, 1) := by decide +kernel
theorem dX1_append_39 : decode cX1_append 39 = .ok (.getfield 9, 3) := by decide +kernel
theorem dX1_append_42 : decode cX1_append 42 = .ok (.iload_n 1, 1) := by decide +kernel
theorem dX1_append_43 : decode cX1_append 43 = .ok (.iastore, 1) := by decide +kernel
theorem dX1_append_44 : decode cX1_append 44 = .ok (.aload_n 0, 1) := by decide +kernel
theorem dX1_append_45 : decode cX1_append 45 = .ok (.getfield 19, 3) := by decide +kernel
theorem dX1_append_48 : decode cX1_append 48 = .ok (.aload_n 0, 1) := by decide +kernel
theorem dX1_append_49 : decode cX1_append 49 = .ok (.getfield 9, 3) := by decide +kernel
theorem dX1_append_52 : decode cX1_append 52 = .ok (.iload_n 2, 1) := by decide +kernel
theorem dX1_append_53 : decode cX1_append 53 = .ok (.iastore, 1) := by decide +kernel
theorem dX1_append_54 : decode cX1_append 54 = .ok (.aload_n 0, 1) := by decide +kernel
theorem dX1_append_55 : decode cX1_append 55 = .ok (.getfield 22, 3) := by decide +kernel
theorem dX1_append_58 : decode cX1_append 58 = .ok (.aload_n 0, 1) := by decide +kernel
theorem dX1_append_59 : decode cX1_append 59 = .ok (.getfield 9, 3) := by decide +kernel
theorem dX1_append_62 : decode cX1_append 62 = .ok (.iload_n 3, 1) := by decide +kernel
theorem dX1_append_63 : decode cX1_append 63 = .ok (.iastore, 1) := by decide +kernel
theorem dX1_append_64 : decode cX1_append 64 = .ok (.aload_n 0, 1) := by decide +kernel
theorem dX1_append_65 : decode cX1_append 65 = .ok (.getfield 27, 3) := by decide +kernel
theorem dX1_append_68 : decode cX1_append 68 = .ok (.aload_n 0, 1) := by decide +kernel
theorem dX1_append_69 : decode cX1_append 69 = .ok (.getfield 9, 3) := by decide +kernel
theorem dX1_append_72 : decode cX1_append 72 = .ok (.aaload, 1) := by decide +kernel
theorem dX1_append_73 : decode cX1_append 73 = .ok (.aload 4, 2) := by decide +kernel
theorem dX1_append_75 : decode cX1_append 75 = .ok (.invokevirtual 40, 3) := by decide +kernel
theorem dX1_append_78 : decode cX1_append 78 = .ok (.aload_n 0, 1) := by decide +kernel
theorem dX1_append_79 : decode cX1_append 79 = .ok (.dup, 1) := by decide +kernel
theorem dX1_append_80 : decode cX1_append 80 = .ok (.getfield 9, 3) := by decide +kernel
theorem dX1_append_83 : decode cX1_append 83 = .ok (.iconst 1, 1) := by decide +kernel
theorem dX1_append_84 : decode cX1_append 84 = .ok (.iadd, 1) := by decide +kernel
theorem dX1_append_85 : decode cX1_append 85 = .ok (.putfield 9, 3) := by decide +kernel
theorem dX1_append_88 : decode cX1_append 88 = .ok (.return_, 1) := by decide +kernel
abbrev rmX1_append : Room := { frames := 4, cells := 0, slots := 0, locals := 104 }
noncomputable def fX1_append_17 (n : Nat) (Sh : Sp) (a0 : Nat) (a1 : Int32) (a2 : Int32) (a3 : Int32) (a4 : Nat) (M : Mm) : Option Mm :=
  tI M a0 0 fun x1 =>
  if x1 < 0 then
    some M
  else
    tI M a0 0 fun x2 =>
    if x2 < 10 then
      tF M a0 1 fun b3 =>
      tI M a0 0 fun x4 =>
      sI Sh M b3 x4 a1 fun M5 =>
      tF M5 a0 2 fun b6 =>
      tI M5 a0 0 fun x7 =>
      sI Sh M5 b6 x7 a2 fun M8 =>
      tF M8 a0 3 fun b9 =>
      tI M8 a0 0 fun x10 =>
      sI Sh M8 b9 x10 a3 fun M11 =>
      tF M11 a0 4 fun b12 =>
      tI M11 a0 0 fun x13 =>
      aR Sh M11 b12 4 x13 fun b14 =>
      chk (Sh b14 = some (.inl 5)) <|
      (fX5_become n Sh M11 b14 a4).bind fun r15 =>
      tI r15 a0 0 fun x16 =>
      qI r15 a0 0 (x16 + 1) fun M17 =>
      some M17
    else
      some M
noncomputable def fX1_append (n : Nat) (Sh : Sp) (M : Mm) (a0 : Nat) (a1 : Int32) (a2 : Int32) (a3 : Int32) (a4 : Nat) : Option Mm :=
  tI M a0 0 fun x18 =>
  if x18 < 10 then
    fX1_append_17 n Sh a0 a1 a2 a3 a4 M
  else
    (fX1_firstOfHighestRank n Sh M a0).bind fun r19 =>
    (fX1_drop n Sh M a0 r19).bind fun r20 =>
    fX1_append_17 n Sh a0 a1 a2 a3 a4 r20
set_option maxRecDepth 100000 in
set_option maxHeartbeats 4000000 in
theorem kX1_append {l : Launch} {G : Gt} {n : Nat} {Sh : Sp} {M : Mm} {a0 : Nat} {a1 : Int32} {a2 : Int32} {a3 : Int32} {a4 : Nat} (hT : Sh a0 = some (.inl 1)) {r : Mm} (h : fX1_append n Sh M a0 a1 a2 a3 a4 = some r) : Ct l yX1_append cX1_append 5 none rmX1_append G Sh M [.ref a0, .int a1, .int a2, .int a3, .ref a4] none r := by
  refine Ct.of (by decide) (Nat.le_of_ble_eq_true rfl) ?_
  intro p e s m args below meth c ls C hK hX hP hS hb hlk hr hl
  replace hl : lv_has ls 5 [(0, .ref a0), (1, .int a1), (2, .int a2), (3, .int a3), (4, .ref a4)] := hl
  have J17 : ∀ (M : Mm) (H : Heap) (locs : List Loc) (ls : Array Slot), HM G Sh M H → SS G s s.heap.size H locs → lv_has ls 5 [(0, .ref a0), (1, .int a1), (2, .int a2), (3, .int a3), (4, .ref a4)] → fX1_append_17 n Sh a0 a1 a2 a3 a4 M = some r → W p l e rmX1_append s m args below meth c H locs 0 0 (MQ below (QG G Sh r none) args s rmX1_append.cells rmX1_append.slots (AA G)) (F0 m 17 ls []) := by
    intro M H locs ls hP hS hl h
    unfold fX1_append_17 at h
    refine lv_aload_n C.1 C.2.1 dX1_append_17 rfl (lv_at hl 0 rfl) ?_
    refine r_tI C hK hP hT cl_1 (k := 0) (by decide) wd_189 rfl dX1_append_18 h (fun x1 h => ?_)
    refine b_lt (tgt := 33) C dX1_append_21 (by decide) h (fun h => ?_) (fun h => ?_)
    · have e := Option.some.inj h
      exact q_v C hlk hP hS hr rfl e.symm dX1_append_33
    · refine lv_aload_n C.1 C.2.1 dX1_append_24 rfl (lv_at hl 0 rfl) ?_
      refine r_tI C hK hP hT cl_1 (k := 0) (by decide) wd_189 rfl dX1_append_25 h (fun x2 h => ?_)
      refine lv_bipush (v := 10) C.1 C.2.1 dX1_append_28 (by decide) ?_
      refine b_ilt (tgt := 34) C dX1_append_30 (by decide) h (fun h => ?_) (fun h => ?_)
      · refine lv_aload_n C.1 C.2.1 dX1_append_34 rfl (lv_at hl 0 rfl) ?_
        refine r_tF C hK hP hT cl_1 (k := 1) (by decide) wd_191 rfl dX1_append_35 h (fun b3 h => ?_)
        refine lv_aload_n C.1 C.2.1 dX1_append_38 rfl (lv_at hl 0 rfl) ?_
        refine r_tI C hK hP hT cl_1 (k := 0) (by decide) wd_189 rfl dX1_append_39 h (fun x4 h => ?_)
        refine lv_iload_n C.1 C.2.1 dX1_append_42 rfl (lv_at hl 1 rfl) ?_
        refine r_sI C hK hP hS dX1_append_43 h (fun M5 H locs h hP hS => ?_)
        refine lv_aload_n C.1 C.2.1 dX1_append_44 rfl (lv_at hl 0 rfl) ?_
        refine r_tF C hK hP hT cl_1 (k := 2) (by decide) wd_192 rfl dX1_append_45 h (fun b6 h => ?_)
        refine lv_aload_n C.1 C.2.1 dX1_append_48 rfl (lv_at hl 0 rfl) ?_
        refine r_tI C hK hP hT cl_1 (k := 0) (by decide) wd_189 rfl dX1_append_49 h (fun x7 h => ?_)
        refine lv_iload_n C.1 C.2.1 dX1_append_52 rfl (lv_at hl 2 rfl) ?_
        refine r_sI C hK hP hS dX1_append_53 h (fun M8 H locs h hP hS => ?_)
        refine lv_aload_n C.1 C.2.1 dX1_append_54 rfl (lv_at hl 0 rfl) ?_
        refine r_tF C hK hP hT cl_1 (k := 3) (by decide) wd_193 rfl dX1_append_55 h (fun b9 h => ?_)
        refine lv_aload_n C.1 C.2.1 dX1_append_58 rfl (lv_at hl 0 rfl) ?_
        refine r_tI C hK hP hT cl_1 (k := 0) (by decide) wd_189 rfl dX1_append_59 h (fun x10 h => ?_)
        refine lv_iload_n C.1 C.2.1 dX1_append_62 rfl (lv_at hl 3 rfl) ?_
        refine r_sI C hK hP hS dX1_append_63 h (fun M11 H locs h hP hS => ?_)
        refine lv_aload_n C.1 C.2.1 dX1_append_64 rfl (lv_at hl 0 rfl) ?_
        refine r_tF C hK hP hT cl_1 (k := 4) (by decide) wd_194 rfl dX1_append_65 h (fun b12 h => ?_)
        refine lv_aload_n C.1 C.2.1 dX1_append_68 rfl (lv_at hl 0 rfl) ?_
        refine r_tI C hK hP hT cl_1 (k := 0) (by decide) wd_189 rfl dX1_append_69 h (fun x13 h => ?_)
        refine r_aR4 C hK hP dX1_append_72 h (fun b14 h => ?_)
        refine lv_aload C.1 C.2.1 dX1_append_73 (lv_at hl 4 rfl) ?_
        obtain ⟨hs, h⟩ := chk_some h
        obtain ⟨r15, hc, h⟩ := bS h
        refine r_V0 C hK hX hb hP hS hl.1 (kX5_become (hs) hc) hs cl_5 wd_422 mo_X5_become wd_410 wd_411 ⟨Nat.le_of_ble_eq_true rfl, Nat.le_of_ble_eq_true rfl⟩ ⟨Nat.le_of_ble_eq_true rfl, Nat.le_of_ble_eq_true rfl⟩ rfl (rest := []) rfl (Nat.le_of_ble_eq_true rfl) dX1_append_75 (fun H locs hP hS => ?_)
        refine lv_aload_n C.1 C.2.1 dX1_append_78 rfl (lv_at hl 0 rfl) ?_
        refine lv_dup C.1 C.2.1 dX1_append_79 rfl ?_
        refine r_tI C hK hP hT cl_1 (k := 0) (by decide) wd_189 rfl dX1_append_80 h (fun x16 h => ?_)
        refine lv_iconst (v := 1) C.1 C.2.1 dX1_append_83 (by decide) ?_
        refine lv_iadd C.1 C.2.1 dX1_append_84 ?_
        refine r_qI C hK hP hS hT cl_1 (k := 0) (by decide) wd_189 rfl rfl (tyX1_ok 0 (by decide)) dX1_append_85 h (fun M17 H locs h hP hS => ?_)
        have e := Option.some.inj h
        exact q_v C hlk hP hS hr rfl e.symm dX1_append_88
      · have e := Option.some.inj h
        exact q_v C hlk hP hS hr rfl e.symm dX1_append_33
  unfold fX1_append at h
  refine lv_aload_n C.1 C.2.1 dX1_append_0 rfl (lv_at hl 0 rfl) ?_
  refine r_tI C hK hP hT cl_1 (k := 0) (by decide) wd_189 rfl dX1_append_1 h (fun x18 h => ?_)
  refine lv_bipush (v := 10) C.1 C.2.1 dX1_append_4 (by decide) ?_
  refine b_ilt (tgt := 17) C dX1_append_6 (by decide) h (fun h => ?_) (fun h => ?_)
  · exact J17 (M) _ _ _ hP hS (lv_sub hl [0, 1, 2, 3, 4] rfl) h
  · refine lv_aload_n C.1 C.2.1 dX1_append_9 rfl (lv_at hl 0 rfl) ?_
    refine lv_aload_n C.1 C.2.1 dX1_append_10 rfl (lv_at hl 0 rfl) ?_
    obtain ⟨r19, hc, h⟩ := bS h
    refine r_V1 C hK hX hb hP hS hl.1 (kX1_firstOfHighestRank (hT) hc) hT cl_1 wd_565 mo_X1_firstOfHighestRank wd_567 wd_8 ⟨Nat.le_of_ble_eq_true rfl, Nat.le_of_ble_eq_true rfl⟩ ⟨Nat.le_of_ble_eq_true rfl, Nat.le_of_ble_eq_true rfl⟩ rfl (rest := [.ref a0]) rfl (Nat.le_of_ble_eq_true rfl) dX1_append_11 (fun H locs hP hS => ?_)
    obtain ⟨r20, hc, h⟩ := bS h
    refine r_V0 C hK hX hb hP hS hl.1 (kX1_drop (hT) hc) hT cl_1 wd_449 mo_X1_drop wd_451 wd_5 ⟨Nat.le_of_ble_eq_true rfl, Nat.le_of_ble_eq_true rfl⟩ ⟨Nat.le_of_ble_eq_true rfl, Nat.le_of_ble_eq_true rfl⟩ rfl (rest := []) rfl (Nat.le_of_ble_eq_true rfl) dX1_append_14 (fun H locs hP hS => ?_)
    exact J17 (r20) _ _ _ hP hS (lv_sub hl [0, 1, 2, 3, 4] rfl) h
theorem dX1_firstOfLowestRank_0 : decode cX1_firstOfLowestRank 0 = .ok (.iconst 0, 1) := by decide +kernel
theorem dX1_firstOfLowestRank_1 : decode cX1_firstOfLowestRank 1 = .ok (.istore_n 1, 1) := by decide +kernel
theorem dX1_firstOfLowestRank_2 : decode cX1_firstOfLowestRank 2 = .ok (.iconst 1, 1) := by decide +kernel
theorem dX1_firstOfLowestRank_3 : decode cX1_firstOfLowestRank 3 = .ok (.istore_n 2, 1) := by decide +kernel
theorem dX1_firstOfLowestRank_4 : decode cX1_firstOfLowestRank 4 = .ok (.iload_n 2, 1) := by decide +kernel
theorem dX1_firstOfLowestRank_5 : decode cX1_firstOfLowestRank 5 = .ok (.aload_n 0, 1) := by decide +kernel
theorem dX1_firstOfLowestRank_6 : decode cX1_firstOfLowestRank 6 = .ok (.getfield 9, 3) := by decide +kernel
theorem dX1_firstOfLowestRank_9 : decode cX1_firstOfLowestRank 9 = .ok (.if_icmp .ge 24, 3) := by decide +kernel
theorem dX1_firstOfLowestRank_12 : decode cX1_firstOfLowestRank 12 = .ok (.aload_n 0, 1) := by decide +kernel
theorem dX1_firstOfLowestRank_13 : decode cX1_firstOfLowestRank 13 = .ok (.iload_n 2, 1) := by decide +kernel
theorem dX1_firstOfLowestRank_14 : decode cX1_firstOfLowestRank 14 = .ok (.invokevirtual 48, 3) := by decide +kernel
theorem dX1_firstOfLowestRank_17 : decode cX1_firstOfLowestRank 17 = .ok (.aload_n 0, 1) := by decide +kernel
theorem dX1_firstOfLowestRank_18 : decode cX1_firstOfLowestRank 18 = .ok (.iload_n 1, 1) := by decide +kernel
theorem dX1_firstOfLowestRank_19 : decode cX1_firstOfLowestRank 19 = .ok (.invokevirtual 48, 3) := by decide +kernel
theorem dX1_firstOfLowestRank_22 : decode cX1_firstOfLowestRank 22 = .ok (.if_icmp .ge 5, 3) := by decide +kernel
theorem dX1_firstOfLowestRank_25 : decode cX1_firstOfLowestRank 25 = .ok (.iload_n 2, 1) := by decide +kernel
theorem dX1_firstOfLowestRank_26 : decode cX1_firstOfLowestRank 26 = .ok (.istore_n 1, 1) := by decide +kernel
theorem dX1_firstOfLowestRank_27 : decode cX1_firstOfLowestRank 27 = .ok (.iinc 2 1, 3) := by decide +kernel
theorem dX1_firstOfLowestRank_30 : decode cX1_firstOfLowestRank 30 = .ok (.goto (-26), 3) := by decide +kernel
theorem dX1_firstOfLowestRank_33 : decode cX1_firstOfLowestRank 33 = .ok (.iload_n 1, 1) := by decide +kernel
theorem dX1_firstOfLowestRank_34 : decode cX1_firstOfLowestRank 34 = .ok (.ireturn, 1) := by decide +kernel
abbrev rmX1_firstOfLowestRank : Room := { frames := 3, cells := 0, slots := 0, locals := 82 }
noncomputable def fX1_firstOfLowestRank_27 (n : Nat) (Sh : Sp) (M : Mm) (a0 : Nat) (v1 : Int32) (v2 : Int32) : Option ((Int32 × Int32) ⊕ Int32) :=
  some (Sum.inl (v1, (v2 + 1)))
noncomputable def fX1_firstOfLowestRank_4b (n : Nat) (Sh : Sp) (M : Mm) (a0 : Nat) (v1 : Int32) (v2 : Int32) : Option ((Int32 × Int32) ⊕ Int32) :=
  tI M a0 0 fun x1 =>
  if v2 < x1 then
    (fX1_rankOf n Sh M a0 v2).bind fun r2 =>
    (fX1_rankOf n Sh M a0 v1).bind fun r3 =>
    if r2 < r3 then
      fX1_firstOfLowestRank_27 n Sh M a0 v2 v2
    else
      fX1_firstOfLowestRank_27 n Sh M a0 v1 v2
  else
    some (Sum.inr v1)
noncomputable def fX1_firstOfLowestRank_4 (n : Nat) (Sh : Sp) (M : Mm) (a0 : Nat) (v1 : Int32) (v2 : Int32) : Option Int32 :=
  iter n (fun s => fX1_firstOfLowestRank_4b n Sh M a0 s.1 s.2) (v1, v2)
noncomputable def fX1_firstOfLowestRank (n : Nat) (Sh : Sp) (M : Mm) (a0 : Nat) : Option Int32 :=
  fX1_firstOfLowestRank_4 n Sh M a0 0 1
set_option maxRecDepth 100000 in
set_option maxHeartbeats 4000000 in
theorem kX1_firstOfLowestRank {l : Launch} {G : Gt} {n : Nat} {Sh : Sp} {M : Mm} {a0 : Nat} (hT : Sh a0 = some (.inl 1)) {r : Int32} (h : fX1_firstOfLowestRank n Sh M a0 = some r) : Ct l yX1_firstOfLowestRank cX1_firstOfLowestRank 3 (some .int) rmX1_firstOfLowestRank G Sh M [.ref a0] (some (.int r)) M := by
  refine Ct.of (by decide) (Nat.le_of_ble_eq_true rfl) ?_
  intro p e s m args below meth c ls C hK hX hP hS hb hlk hr hl
  replace hl : lv_has ls 3 [(0, .ref a0)] := hl
  have J4 : ∀ (k : Nat) (v1 : Int32) (v2 : Int32) (H : Heap) (locs : List Loc) (ls : Array Slot), HM G Sh M H → SS G s s.heap.size H locs → lv_has ls 3 [(0, .ref a0), (1, .int v1), (2, .int v2)] → iter k (fun s => fX1_firstOfLowestRank_4b n Sh M a0 s.1 s.2) (v1, v2) = some r → W p l e rmX1_firstOfLowestRank s m args below meth c H locs 0 0 (MQ below (QG G Sh M (some (.int r))) args s rmX1_firstOfLowestRank.cells rmX1_firstOfLowestRank.slots (AA G)) (F0 m 4 ls []) := by
    intro k
    induction k with
    | zero => intro v1 v2 H locs ls hP hS hl h; exact (iter_0 h).elim
    | succ k ih1 =>
      intro v1 v2 H locs ls hP hS hl h
      obtain ⟨z1, h, hz1⟩ := iter_some h
      replace h : fX1_firstOfLowestRank_4b n Sh M a0 v1 v2 = some z1 := h
      have J27 : ∀ (v1 : Int32) (v2 : Int32) (H : Heap) (locs : List Loc) (ls : Array Slot), HM G Sh M H → SS G s s.heap.size H locs → lv_has ls 3 [(0, .ref a0), (1, .int v1), (2, .int v2)] → fX1_firstOfLowestRank_27 n Sh M a0 v1 v2 = some z1 → W p l e rmX1_firstOfLowestRank s m args below meth c H locs 0 0 (MQ below (QG G Sh M (some (.int r))) args s rmX1_firstOfLowestRank.cells rmX1_firstOfLowestRank.slots (AA G)) (F0 m 27 ls []) := by
        intro v1 v2 H locs ls hP hS hl h
        unfold fX1_firstOfLowestRank_27 at h
        refine lv_iinc (v := (v2 + 1)) (lv' := [(2, .int (v2 + 1)), (0, .ref a0), (1, .int v1)]) C.1 C.2.1 dX1_firstOfLowestRank_27 hl (k := 2) rfl rfl (by decide) rfl (fun ls hl => ?_)
        refine lv_goto (tgt := 4) C.1 C.2.1 dX1_firstOfLowestRank_30 (by decide) ?_
        have e := Option.some.inj h
        rw [← e] at hz1
        exact ih1 (v1) ((v2 + 1)) _ _ _ hP hS (lv_sub hl [1, 2, 0] rfl) (itK_inl hz1)
      unfold fX1_firstOfLowestRank_4b at h
      refine lv_iload_n C.1 C.2.1 dX1_firstOfLowestRank_4 rfl (lv_at hl 2 rfl) ?_
      refine lv_aload_n C.1 C.2.1 dX1_firstOfLowestRank_5 rfl (lv_at hl 0 rfl) ?_
      refine r_tI C hK hP hT cl_1 (k := 0) (by decide) wd_189 rfl dX1_firstOfLowestRank_6 h (fun x1 h => ?_)
      refine b_ige (tgt := 33) C dX1_firstOfLowestRank_9 (by decide) h (fun h => ?_) (fun h => ?_)
      · refine lv_aload_n C.1 C.2.1 dX1_firstOfLowestRank_12 rfl (lv_at hl 0 rfl) ?_
        refine lv_iload_n C.1 C.2.1 dX1_firstOfLowestRank_13 rfl (lv_at hl 2 rfl) ?_
        obtain ⟨r2, hc, h⟩ := bS h
        refine r_V1 C hK hX hb hP hS hl.1 (kX1_rankOf (hT) hc) hT cl_1 wd_441 mo_X1_rankOf wd_442 wd_443 ⟨Nat.le_of_ble_eq_true rfl, Nat.le_of_ble_eq_true rfl⟩ ⟨Nat.le_of_ble_eq_true rfl, Nat.le_of_ble_eq_true rfl⟩ rfl (rest := []) rfl (Nat.le_of_ble_eq_true rfl) dX1_firstOfLowestRank_14 (fun H locs hP hS => ?_)
        refine lv_aload_n C.1 C.2.1 dX1_firstOfLowestRank_17 rfl (lv_at hl 0 rfl) ?_
        refine lv_iload_n C.1 C.2.1 dX1_firstOfLowestRank_18 rfl (lv_at hl 1 rfl) ?_
        obtain ⟨r3, hc, h⟩ := bS h
        refine r_V1 C hK hX hb hP hS hl.1 (kX1_rankOf (hT) hc) hT cl_1 wd_441 mo_X1_rankOf wd_442 wd_443 ⟨Nat.le_of_ble_eq_true rfl, Nat.le_of_ble_eq_true rfl⟩ ⟨Nat.le_of_ble_eq_true rfl, Nat.le_of_ble_eq_true rfl⟩ rfl (rest := [.int r2]) rfl (Nat.le_of_ble_eq_true rfl) dX1_firstOfLowestRank_19 (fun H locs hP hS => ?_)
        refine b_ige (tgt := 27) C dX1_firstOfLowestRank_22 (by decide) h (fun h => ?_) (fun h => ?_)
        · refine lv_iload_n C.1 C.2.1 dX1_firstOfLowestRank_25 rfl (lv_at hl 2 rfl) ?_
          refine lv_istore_n (lv' := [(1, .int v2), (0, .ref a0), (2, .int v2)]) C.1 C.2.1 dX1_firstOfLowestRank_26 rfl hl (by decide) rfl (fun ls hl => ?_)
          exact J27 (v2) (v2) _ _ _ hP hS (lv_sub hl [1, 0, 2] rfl) h
        · exact J27 (v1) (v2) _ _ _ hP hS (lv_sub hl [0, 1, 2] rfl) h
      · refine lv_iload_n C.1 C.2.1 dX1_firstOfLowestRank_33 rfl (lv_at hl 1 rfl) ?_
        have e := Option.some.inj h
        rw [← e] at hz1
        replace e := itK_inr hz1
        exact q_i C hlk hP hS hr (by rw [← e]) rfl dX1_firstOfLowestRank_34
  unfold fX1_firstOfLowestRank at h
  refine lv_iconst (v := 0) C.1 C.2.1 dX1_firstOfLowestRank_0 (by decide) ?_
  refine lv_istore_n (lv' := [(1, .int 0), (0, .ref a0)]) C.1 C.2.1 dX1_firstOfLowestRank_1 rfl hl (by decide) rfl (fun ls hl => ?_)
  refine lv_iconst (v := 1) C.1 C.2.1 dX1_firstOfLowestRank_2 (by decide) ?_
  refine lv_istore_n (lv' := [(2, .int 1), (1, .int 0), (0, .ref a0)]) C.1 C.2.1 dX1_firstOfLowestRank_3 rfl hl (by decide) rfl (fun ls hl => ?_)
  exact J4  n (0) (1) _ _ _ hP hS (lv_sub hl [2, 1, 0] rfl) h
theorem dX1_moveFirst_0 : decode cX1_moveFirst 0 = .ok (.aload_n 0, 1) := by decide +kernel
theorem dX1_moveFirst_1 : decode cX1_moveFirst 1 = .ok (.invokevirtual 71, 3) := by decide +kernel
theorem dX1_moveFirst_4 : decode cX1_moveFirst 4 = .ok (.istore_n 2, 1) := by decide +kernel
theorem dX1_moveFirst_5 : decode cX1_moveFirst 5 = .ok (.aload_n 0, 1) := by decide +kernel
theorem dX1_moveFirst_6 : decode cX1_moveFirst 6 = .ok (.iload_n 2, 1) := by decide +kernel
theorem dX1_moveFirst_7 : decode cX1_moveFirst 7 = .ok (.invokevirtual 44, 3) := by decide +kernel
theorem dX1_moveFirst_10 : decode cX1_moveFirst 10 = .ok (.ifCond .ne 5, 3) := by decide +kernel
theorem dX1_moveFirst_13 : decode cX1_moveFirst 13 = .ok (.iconst 0, 1) := by decide +kernel
theorem dX1_moveFirst_14 : decode cX1_moveFirst 14 = .ok (.ireturn, 1) := by decide +kernel
theorem dX1_moveFirst_15 : decode cX1_moveFirst 15 = .ok (.aload_n 1, 1) := by decide +kernel
theorem dX1_moveFirst_16 : decode cX1_moveFirst 16 = .ok (.aload_n 0, 1) := by decide +kernel
theorem dX1_moveFirst_17 : decode cX1_moveFirst 17 = .ok (.getfield 27, 3) := by decide +kernel
theorem dX1_moveFirst_20 : decode cX1_moveFirst 20 = .ok (.iload_n 2, 1) := by decide +kernel
theorem dX1_moveFirst_21 : decode cX1_moveFirst 21 = .ok (.aaload, 1) := by decide +kernel
theorem dX1_moveFirst_22 : decode cX1_moveFirst 22 = .ok (.invokevirtual 40, 3) := by decide +kernel
theorem dX1_moveFirst_25 : decode cX1_moveFirst 25 = .ok (.aload_n 0, 1) := by decide +kernel
theorem dX1_moveFirst_26 : decode cX1_moveFirst 26 = .ok (.iload_n 2, 1) := by decide +kernel
theorem dX1_moveFirst_27 : decode cX1_moveFirst 27 = .ok (.invokevirtual 68, 3) := by decide +kernel
theorem dX1_moveFirst_30 : decode cX1_moveFirst 30 = .ok (.iconst 1, 1) := by decide +kernel
theorem dX1_moveFirst_31 : decode cX1_moveFirst 31 = .ok (.ireturn, 1) := by decide +kernel
abbrev rmX1_moveFirst : Room := { frames := 4, cells := 0, slots := 0, locals := 104 }
noncomputable def fX1_moveFirst (n : Nat) (Sh : Sp) (M : Mm) (a0 : Nat) (a1 : Nat) : Option (Int32 × Mm) :=
  (fX1_firstOfLowestRank n Sh M a0).bind fun r1 =>
  (fX1_has n Sh M a0 r1).bind fun r2 =>
  if r2 = 0 then
    some (0, M)
  else
    tF M a0 4 fun b3 =>
    aR Sh M b3 4 r1 fun b4 =>
    chk (Sh a1 = some (.inl 5)) <|
    (fX5_become n Sh M a1 b4).bind fun r5 =>
    (fX1_drop n Sh r5 a0 r1).bind fun r6 =>
    some (1, r6)
set_option maxRecDepth 100000 in
set_option maxHeartbeats 4000000 in
theorem kX1_moveFirst {l : Launch} {G : Gt} {n : Nat} {Sh : Sp} {M : Mm} {a0 : Nat} {a1 : Nat} (hT : Sh a0 = some (.inl 1)) {r : (Int32 × Mm)} (h : fX1_moveFirst n Sh M a0 a1 = some r) : Ct l yX1_moveFirst cX1_moveFirst 3 (some .boolean) rmX1_moveFirst G Sh M [.ref a0, .ref a1] (some (.int r.1)) r.2 := by
  refine Ct.of (by decide) (Nat.le_of_ble_eq_true rfl) ?_
  intro p e s m args below meth c ls C hK hX hP hS hb hlk hr hl
  replace hl : lv_has ls 3 [(0, .ref a0), (1, .ref a1)] := hl
  unfold fX1_moveFirst at h
  refine lv_aload_n C.1 C.2.1 dX1_moveFirst_0 rfl (lv_at hl 0 rfl) ?_
  obtain ⟨r1, hc, h⟩ := bS h
  refine r_V1 C hK hX hb hP hS hl.1 (kX1_firstOfLowestRank (hT) hc) hT cl_1 wd_596 mo_X1_firstOfLowestRank wd_598 wd_9 ⟨Nat.le_of_ble_eq_true rfl, Nat.le_of_ble_eq_true rfl⟩ ⟨Nat.le_of_ble_eq_true rfl, Nat.le_of_ble_eq_true rfl⟩ rfl (rest := []) rfl (Nat.le_of_ble_eq_true rfl) dX1_moveFirst_1 (fun H locs hP hS => ?_)
  refine lv_istore_n (lv' := [(2, .int r1), (0, .ref a0), (1, .ref a1)]) C.1 C.2.1 dX1_moveFirst_4 rfl hl (by decide) rfl (fun ls hl => ?_)
  refine lv_aload_n C.1 C.2.1 dX1_moveFirst_5 rfl (lv_at hl 1 rfl) ?_
  refine lv_iload_n C.1 C.2.1 dX1_moveFirst_6 rfl (lv_at hl 0 rfl) ?_
  obtain ⟨r2, hc, h⟩ := bS h
  refine r_V1 C hK hX hb hP hS hl.1 (kX1_has (hT) hc) hT cl_1 wd_445 mo_X1_has wd_446 wd_447 ⟨Nat.le_of_ble_eq_true rfl, Nat.le_of_ble_eq_true rfl⟩ ⟨Nat.le_of_ble_eq_true rfl, Nat.le_of_ble_eq_true rfl⟩ rfl (rest := []) rfl (Nat.le_of_ble_eq_true rfl) dX1_moveFirst_7 (fun H locs hP hS => ?_)
  refine b_ne (tgt := 15) C dX1_moveFirst_10 (by decide) h (fun h => ?_) (fun h => ?_)
  · refine lv_iconst (v := 0) C.1 C.2.1 dX1_moveFirst_13 (by decide) ?_
    have e := Option.some.inj h
    exact q_z C hlk hP hS hr (by decide) (by rw [← e]) (by rw [← e]) dX1_moveFirst_14
  · refine lv_aload_n C.1 C.2.1 dX1_moveFirst_15 rfl (lv_at hl 2 rfl) ?_
    refine lv_aload_n C.1 C.2.1 dX1_moveFirst_16 rfl (lv_at hl 1 rfl) ?_
    refine r_tF C hK hP hT cl_1 (k := 4) (by decide) wd_194 rfl dX1_moveFirst_17 h (fun b3 h => ?_)
    refine lv_iload_n C.1 C.2.1 dX1_moveFirst_20 rfl (lv_at hl 0 rfl) ?_
    refine r_aR4 C hK hP dX1_moveFirst_21 h (fun b4 h => ?_)
    obtain ⟨hs, h⟩ := chk_some h
    obtain ⟨r5, hc, h⟩ := bS h
    refine r_V0 C hK hX hb hP hS hl.1 (kX5_become (hs) hc) hs cl_5 wd_422 mo_X5_become wd_410 wd_411 ⟨Nat.le_of_ble_eq_true rfl, Nat.le_of_ble_eq_true rfl⟩ ⟨Nat.le_of_ble_eq_true rfl, Nat.le_of_ble_eq_true rfl⟩ rfl (rest := []) rfl (Nat.le_of_ble_eq_true rfl) dX1_moveFirst_22 (fun H locs hP hS => ?_)
    refine lv_aload_n C.1 C.2.1 dX1_moveFirst_25 rfl (lv_at hl 1 rfl) ?_
    refine lv_iload_n C.1 C.2.1 dX1_moveFirst_26 rfl (lv_at hl 0 rfl) ?_
    obtain ⟨r6, hc, h⟩ := bS h
    refine r_V0 C hK hX hb hP hS hl.1 (kX1_drop (hT) hc) hT cl_1 wd_449 mo_X1_drop wd_451 wd_5 ⟨Nat.le_of_ble_eq_true rfl, Nat.le_of_ble_eq_true rfl⟩ ⟨Nat.le_of_ble_eq_true rfl, Nat.le_of_ble_eq_true rfl⟩ rfl (rest := []) rfl (Nat.le_of_ble_eq_true rfl) dX1_moveFirst_27 (fun H locs hP hS => ?_)
    refine lv_iconst (v := 1) C.1 C.2.1 dX1_moveFirst_30 (by decide) ?_
    have e := Option.some.inj h
    exact q_z C hlk hP hS hr (by decide) (by rw [← e]) (by rw [← e]) dX1_moveFirst_31
theorem dX1_dropAll_0 : decode cX1_dropAll 0 = .ok (.aload_n 0, 1) := by decide +kernel
theorem dX1_dropAll_1 : decode cX1_dropAll 1 = .ok (.getfield 9, 3) := by decide +kernel
theorem dX1_dropAll_4 : decode cX1_dropAll 4 = .ok (.istore_n 1, 1) := by decide +kernel
theorem dX1_dropAll_5 : decode cX1_dropAll 5 = .ok (.aload_n 0, 1) := by decide +kernel
theorem dX1_dropAll_6 : decode cX1_dropAll 6 = .ok (.iconst 0, 1) := by decide +kernel
theorem dX1_dropAll_7 : decode cX1_dropAll 7 = .ok (.putfield 9, 3) := by decide +kernel
theorem dX1_dropAll_10 : decode cX1_dropAll 10 = .ok (.iload_n 1, 1) := by decide +kernel
theorem dX1_dropAll_11 : decode cX1_dropAll 11 = .ok (.ireturn, 1) := by decide +kernel
abbrev rmX1_dropAll : Room := { frames := 1, cells := 0, slots := 0, locals := 40 }
noncomputable def fX1_dropAll (n : Nat) (Sh : Sp) (M : Mm) (a0 : Nat) : Option (Int32 × Mm) :=
  tI M a0 0 fun x1 =>
  qI M a0 0 0 fun M2 =>
  some (x1, M2)
set_option maxRecDepth 100000 in
set_option maxHeartbeats 4000000 in
theorem kX1_dropAll {l : Launch} {G : Gt} {n : Nat} {Sh : Sp} {M : Mm} {a0 : Nat} (hT : Sh a0 = some (.inl 1)) {r : (Int32 × Mm)} (h : fX1_dropAll n Sh M a0 = some r) : Ct l yX1_dropAll cX1_dropAll 2 (some .int) rmX1_dropAll G Sh M [.ref a0] (some (.int r.1)) r.2 := by
  refine Ct.of (by decide) (Nat.le_of_ble_eq_true rfl) ?_
  intro p e s m args below meth c ls C hK hX hP hS hb hlk hr hl
  replace hl : lv_has ls 2 [(0, .ref a0)] := hl
  unfold fX1_dropAll at h
  refine lv_aload_n C.1 C.2.1 dX1_dropAll_0 rfl (lv_at hl 0 rfl) ?_
  refine r_tI C hK hP hT cl_1 (k := 0) (by decide) wd_189 rfl dX1_dropAll_1 h (fun x1 h => ?_)
  refine lv_istore_n (lv' := [(1, .int x1), (0, .ref a0)]) C.1 C.2.1 dX1_dropAll_4 rfl hl (by decide) rfl (fun ls hl => ?_)
  refine lv_aload_n C.1 C.2.1 dX1_dropAll_5 rfl (lv_at hl 1 rfl) ?_
  refine lv_iconst (v := 0) C.1 C.2.1 dX1_dropAll_6 (by decide) ?_
  refine r_qI C hK hP hS hT cl_1 (k := 0) (by decide) wd_189 rfl rfl (tyX1_ok 0 (by decide)) dX1_dropAll_7 h (fun M2 H locs h hP hS => ?_)
  refine lv_iload_n C.1 C.2.1 dX1_dropAll_10 rfl (lv_at hl 0 rfl) ?_
  have e := Option.some.inj h
  exact q_i C hlk hP hS hr (by rw [← e]) (by rw [← e]) dX1_dropAll_11
theorem dX1_dropFocus_0 : decode cX1_dropFocus 0 = .ok (.aload_n 0, 1) := by decide +kernel
theorem dX1_dropFocus_1 : decode cX1_dropFocus 1 = .ok (.getfield 9, 3) := by decide +kernel
theorem dX1_dropFocus_4 : decode cX1_dropFocus 4 = .ok (.iconst 1, 1) := by decide +kernel
theorem dX1_dropFocus_5 : decode cX1_dropFocus 5 = .ok (.isub, 1) := by decide +kernel
theorem dX1_dropFocus_6 : decode cX1_dropFocus 6 = .ok (.istore_n 1, 1) := by decide +kernel
theorem dX1_dropFocus_7 : decode cX1_dropFocus 7 = .ok (.iload_n 1, 1) := by decide +kernel
theorem dX1_dropFocus_8 : decode cX1_dropFocus 8 = .ok (.ifCond .lt 22, 3) := by decide +kernel
theorem dX1_dropFocus_11 : decode cX1_dropFocus 11 = .ok (.aload_n 0, 1) := by decide +kernel
theorem dX1_dropFocus_12 : decode cX1_dropFocus 12 = .ok (.iload_n 1, 1) := by decide +kernel
theorem dX1_dropFocus_13 : decode cX1_dropFocus 13 = .ok (.invokevirtual 48, 3) := by decide +kernel
theorem dX1_dropFocus_16 : decode cX1_dropFocus 16 = .ok (.ifCond .ne 8, 3) := by decide +kernel
theorem dX1_dropFocus_19 : decode cX1_dropFocus 19 = .ok (.aload_n 0, 1) := by decide +kernel
theorem dX1_dropFocus_20 : decode cX1_dropFocus 20 = .ok (.iload_n 1, 1) := by decide +kernel
theorem dX1_dropFocus_21 : decode cX1_dropFocus 21 = .ok (.invokevirtual 68, 3) := by decide +kernel
theorem dX1_dropFocus_24 : decode cX1_dropFocus 24 = .ok (.iinc 1 (-1), 3) := by decide +kernel
theorem dX1_dropFocus_27 : decode cX1_dropFocus 27 = .ok (.goto (-20), 3) := by decide +kernel
theorem dX1_dropFocus_30 : decode cX1_dropFocus 30 = .ok (.return_, 1) := by decide +kernel
abbrev rmX1_dropFocus : Room := { frames := 3, cells := 0, slots := 0, locals := 84 }
noncomputable def fX1_dropFocus_24 (n : Nat) (Sh : Sp) (a0 : Nat) (M : Mm) (v1 : Int32) : Option ((Int32 × Mm) ⊕ Mm) :=
  some (Sum.inl ((v1 + (-1)), M))
noncomputable def fX1_dropFocus_7b (n : Nat) (Sh : Sp) (a0 : Nat) (M : Mm) (v1 : Int32) : Option ((Int32 × Mm) ⊕ Mm) :=
  if v1 < 0 then
    some (Sum.inr M)
  else
    (fX1_rankOf n Sh M a0 v1).bind fun r1 =>
    if r1 = 0 then
      (fX1_drop n Sh M a0 v1).bind fun r2 =>
      fX1_dropFocus_24 n Sh a0 r2 v1
    else
      fX1_dropFocus_24 n Sh a0 M v1
noncomputable def fX1_dropFocus_7 (n : Nat) (Sh : Sp) (a0 : Nat) (M : Mm) (v1 : Int32) : Option Mm :=
  iter n (fun s => fX1_dropFocus_7b n Sh a0 s.2 s.1) (v1, M)
noncomputable def fX1_dropFocus (n : Nat) (Sh : Sp) (M : Mm) (a0 : Nat) : Option Mm :=
  tI M a0 0 fun x3 =>
  fX1_dropFocus_7 n Sh a0 M (x3 - 1)
set_option maxRecDepth 100000 in
set_option maxHeartbeats 4000000 in
theorem kX1_dropFocus {l : Launch} {G : Gt} {n : Nat} {Sh : Sp} {M : Mm} {a0 : Nat} (hT : Sh a0 = some (.inl 1)) {r : Mm} (h : fX1_dropFocus n Sh M a0 = some r) : Ct l yX1_dropFocus cX1_dropFocus 2 none rmX1_dropFocus G Sh M [.ref a0] none r := by
  refine Ct.of (by decide) (Nat.le_of_ble_eq_true rfl) ?_
  intro p e s m args below meth c ls C hK hX hP hS hb hlk hr hl
  replace hl : lv_has ls 2 [(0, .ref a0)] := hl
  have J7 : ∀ (k : Nat) (v1 : Int32) (M : Mm) (H : Heap) (locs : List Loc) (ls : Array Slot), HM G Sh M H → SS G s s.heap.size H locs → lv_has ls 2 [(0, .ref a0), (1, .int v1)] → iter k (fun s => fX1_dropFocus_7b n Sh a0 s.2 s.1) (v1, M) = some r → W p l e rmX1_dropFocus s m args below meth c H locs 0 0 (MQ below (QG G Sh r none) args s rmX1_dropFocus.cells rmX1_dropFocus.slots (AA G)) (F0 m 7 ls []) := by
    intro k
    induction k with
    | zero => intro v1 M H locs ls hP hS hl h; exact (iter_0 h).elim
    | succ k ih1 =>
      intro v1 M H locs ls hP hS hl h
      obtain ⟨z1, h, hz1⟩ := iter_some h
      replace h : fX1_dropFocus_7b n Sh a0 M v1 = some z1 := h
      have J24 : ∀ (M : Mm) (v1 : Int32) (H : Heap) (locs : List Loc) (ls : Array Slot), HM G Sh M H → SS G s s.heap.size H locs → lv_has ls 2 [(0, .ref a0), (1, .int v1)] → fX1_dropFocus_24 n Sh a0 M v1 = some z1 → W p l e rmX1_dropFocus s m args below meth c H locs 0 0 (MQ below (QG G Sh r none) args s rmX1_dropFocus.cells rmX1_dropFocus.slots (AA G)) (F0 m 24 ls []) := by
        intro M v1 H locs ls hP hS hl h
        unfold fX1_dropFocus_24 at h
        refine lv_iinc (v := (v1 + (-1))) (lv' := [(1, .int (v1 + (-1))), (0, .ref a0)]) C.1 C.2.1 dX1_dropFocus_24 hl (k := 1) rfl rfl (by decide) rfl (fun ls hl => ?_)
        refine lv_goto (tgt := 7) C.1 C.2.1 dX1_dropFocus_27 (by decide) ?_
        have e := Option.some.inj h
        rw [← e] at hz1
        exact ih1 ((v1 + (-1))) M _ _ _ hP hS (lv_sub hl [1, 0] rfl) (itK_inl hz1)
      unfold fX1_dropFocus_7b at h
      refine lv_iload_n C.1 C.2.1 dX1_dropFocus_7 rfl (lv_at hl 1 rfl) ?_
      refine b_lt (tgt := 30) C dX1_dropFocus_8 (by decide) h (fun h => ?_) (fun h => ?_)
      · have e := Option.some.inj h
        rw [← e] at hz1
        replace e := itK_inr hz1
        exact q_v C hlk hP hS hr rfl e.symm dX1_dropFocus_30
      · refine lv_aload_n C.1 C.2.1 dX1_dropFocus_11 rfl (lv_at hl 0 rfl) ?_
        refine lv_iload_n C.1 C.2.1 dX1_dropFocus_12 rfl (lv_at hl 1 rfl) ?_
        obtain ⟨r1, hc, h⟩ := bS h
        refine r_V1 C hK hX hb hP hS hl.1 (kX1_rankOf (hT) hc) hT cl_1 wd_441 mo_X1_rankOf wd_442 wd_443 ⟨Nat.le_of_ble_eq_true rfl, Nat.le_of_ble_eq_true rfl⟩ ⟨Nat.le_of_ble_eq_true rfl, Nat.le_of_ble_eq_true rfl⟩ rfl (rest := []) rfl (Nat.le_of_ble_eq_true rfl) dX1_dropFocus_13 (fun H locs hP hS => ?_)
        refine b_ne (tgt := 24) C dX1_dropFocus_16 (by decide) h (fun h => ?_) (fun h => ?_)
        · refine lv_aload_n C.1 C.2.1 dX1_dropFocus_19 rfl (lv_at hl 0 rfl) ?_
          refine lv_iload_n C.1 C.2.1 dX1_dropFocus_20 rfl (lv_at hl 1 rfl) ?_
          obtain ⟨r2, hc, h⟩ := bS h
          refine r_V0 C hK hX hb hP hS hl.1 (kX1_drop (hT) hc) hT cl_1 wd_449 mo_X1_drop wd_451 wd_5 ⟨Nat.le_of_ble_eq_true rfl, Nat.le_of_ble_eq_true rfl⟩ ⟨Nat.le_of_ble_eq_true rfl, Nat.le_of_ble_eq_true rfl⟩ rfl (rest := []) rfl (Nat.le_of_ble_eq_true rfl) dX1_dropFocus_21 (fun H locs hP hS => ?_)
          exact J24 (r2) (v1) _ _ _ hP hS (lv_sub hl [0, 1] rfl) h
        · exact J24 (M) (v1) _ _ _ hP hS (lv_sub hl [0, 1] rfl) h
  unfold fX1_dropFocus at h
  refine lv_aload_n C.1 C.2.1 dX1_dropFocus_0 rfl (lv_at hl 0 rfl) ?_
  refine r_tI C hK hP hT cl_1 (k := 0) (by decide) wd_189 rfl dX1_dropFocus_1 h (fun x3 h => ?_)
  refine lv_iconst (v := 1) C.1 C.2.1 dX1_dropFocus_4 (by decide) ?_
  refine lv_isub C.1 C.2.1 dX1_dropFocus_5 ?_
  refine lv_istore_n (lv' := [(1, .int (x3 - 1)), (0, .ref a0)]) C.1 C.2.1 dX1_dropFocus_6 rfl hl (by decide) rfl (fun ls hl => ?_)
  exact J7  n ((x3 - 1)) M _ _ _ hP hS (lv_sub hl [1, 0] rfl) h
theorem dX1_dropChangeOf_0 : decode cX1_dropChangeOf 0 = .ok (.aload_n 0, 1) := by decide +kernel
theorem dX1_dropChangeOf_1 : decode cX1_dropChangeOf 1 = .ok (.getfield 9, 3) := by decide +kernel
theorem dX1_dropChangeOf_4 : decode cX1_dropChangeOf 4 = .ok (.iconst 1, 1) := by decide +kernel
theorem dX1_dropChangeOf_5 : decode cX1_dropChangeOf 5 = .ok (.isub, 1) := by decide +kernel
theorem dX1_dropChangeOf_6 : decode cX1_dropChangeOf 6 = .ok (.istore_n 2, 1) := by decide +kernel
theorem dX1_dropChangeOf_7 : decode cX1_dropChangeOf 7 = .ok (.iload_n 2, 1) := by decide +kernel
theorem dX1_dropChangeOf_8 : decode cX1_dropChangeOf 8 = .ok (.ifCond .lt 31, 3) := by decide +kernel
theorem dX1_dropChangeOf_11 : decode cX1_dropChangeOf 11 = .ok (.aload_n 0, 1) := by decide +kernel
theorem dX1_dropChangeOf_12 : decode cX1_dropChangeOf 12 = .ok (.iload_n 2, 1) := by decide +kernel
theorem dX1_dropChangeOf_13 : decode cX1_dropChangeOf 13 = .ok (.invokevirtual 48, 3) := by decide +kernel
theorem dX1_dropChangeOf_16 : decode cX1_dropChangeOf 16 = .ok (.ifCond .eq 17, 3) := by decide +kernel
theorem dX1_dropChangeOf_19 : decode cX1_dropChangeOf 19 = .ok (.aload_n 0, 1) := by decide +kernel
theorem dX1_dropChangeOf_20 : decode cX1_dropChangeOf 20 = .ok (.iload_n 2, 1) := by decide +kernel
theorem dX1_dropChangeOf_21 : decode cX1_dropChangeOf 21 = .ok (.invokevirtual 52, 3) := by decide +kernel
theorem dX1_dropChangeOf_24 : decode cX1_dropChangeOf 24 = .ok (.iload_n 1, 1) := by decide +kernel
theorem dX1_dropChangeOf_25 : decode cX1_dropChangeOf 25 = .ok (.if_icmp .ne 8, 3) := by decide +kernel
theorem dX1_dropChangeOf_28 : decode cX1_dropChangeOf 28 = .ok (.aload_n 0, 1) := by decide +kernel
theorem dX1_dropChangeOf_29 : decode cX1_dropChangeOf 29 = .ok (.iload_n 2, 1) := by decide +kernel
theorem dX1_dropChangeOf_30 : decode cX1_dropChangeOf 30 = .ok (.invokevirtual 68, 3) := by decide +kernel
theorem dX1_dropChangeOf_33 : decode cX1_dropChangeOf 33 = .ok (.iinc 2 (-1), 3) := by decide +kernel
theorem dX1_dropChangeOf_36 : decode cX1_dropChangeOf 36 = .ok (.goto (-29), 3) := by decide +kernel
theorem dX1_dropChangeOf_39 : decode cX1_dropChangeOf 39 = .ok (.return_, 1) := by decide +kernel
abbrev rmX1_dropChangeOf : Room := { frames := 3, cells := 0, slots := 0, locals := 84 }
noncomputable def fX1_dropChangeOf_33 (n : Nat) (Sh : Sp) (a0 : Nat) (a1 : Int32) (M : Mm) (v2 : Int32) : Option ((Int32 × Mm) ⊕ Mm) :=
  some (Sum.inl ((v2 + (-1)), M))
noncomputable def fX1_dropChangeOf_7b (n : Nat) (Sh : Sp) (a0 : Nat) (a1 : Int32) (M : Mm) (v2 : Int32) : Option ((Int32 × Mm) ⊕ Mm) :=
  if v2 < 0 then
    some (Sum.inr M)
  else
    (fX1_rankOf n Sh M a0 v2).bind fun r1 =>
    if r1 = 0 then
      fX1_dropChangeOf_33 n Sh a0 a1 M v2
    else
      (fX1_targetOf n Sh M a0 v2).bind fun r2 =>
      if r2 = a1 then
        (fX1_drop n Sh M a0 v2).bind fun r3 =>
        fX1_dropChangeOf_33 n Sh a0 a1 r3 v2
      else
        fX1_dropChangeOf_33 n Sh a0 a1 M v2
noncomputable def fX1_dropChangeOf_7 (n : Nat) (Sh : Sp) (a0 : Nat) (a1 : Int32) (M : Mm) (v2 : Int32) : Option Mm :=
  iter n (fun s => fX1_dropChangeOf_7b n Sh a0 a1 s.2 s.1) (v2, M)
noncomputable def fX1_dropChangeOf (n : Nat) (Sh : Sp) (M : Mm) (a0 : Nat) (a1 : Int32) : Option Mm :=
  tI M a0 0 fun x4 =>
  fX1_dropChangeOf_7 n Sh a0 a1 M (x4 - 1)
set_option maxRecDepth 100000 in
set_option maxHeartbeats 4000000 in
theorem kX1_dropChangeOf {l : Launch} {G : Gt} {n : Nat} {Sh : Sp} {M : Mm} {a0 : Nat} {a1 : Int32} (hT : Sh a0 = some (.inl 1)) {r : Mm} (h : fX1_dropChangeOf n Sh M a0 a1 = some r) : Ct l yX1_dropChangeOf cX1_dropChangeOf 3 none rmX1_dropChangeOf G Sh M [.ref a0, .int a1] none r := by
  refine Ct.of (by decide) (Nat.le_of_ble_eq_true rfl) ?_
  intro p e s m args below meth c ls C hK hX hP hS hb hlk hr hl
  replace hl : lv_has ls 3 [(0, .ref a0), (1, .int a1)] := hl
  have J7 : ∀ (k : Nat) (v2 : Int32) (M : Mm) (H : Heap) (locs : List Loc) (ls : Array Slot), HM G Sh M H → SS G s s.heap.size H locs → lv_has ls 3 [(0, .ref a0), (1, .int a1), (2, .int v2)] → iter k (fun s => fX1_dropChangeOf_7b n Sh a0 a1 s.2 s.1) (v2, M) = some r → W p l e rmX1_dropChangeOf s m args below meth c H locs 0 0 (MQ below (QG G Sh r none) args s rmX1_dropChangeOf.cells rmX1_dropChangeOf.slots (AA G)) (F0 m 7 ls []) := by
    intro k
    induction k with
    | zero => intro v2 M H locs ls hP hS hl h; exact (iter_0 h).elim
    | succ k ih1 =>
      intro v2 M H locs ls hP hS hl h
      obtain ⟨z1, h, hz1⟩ := iter_some h
      replace h : fX1_dropChangeOf_7b n Sh a0 a1 M v2 = some z1 := h
      have J33 : ∀ (M : Mm) (v2 : Int32) (H : Heap) (locs : List Loc) (ls : Array Slot), HM G Sh M H → SS G s s.heap.size H locs → lv_has ls 3 [(0, .ref a0), (1, .int a1), (2, .int v2)] → fX1_dropChangeOf_33 n Sh a0 a1 M v2 = some z1 → W p l e rmX1_dropChangeOf s m args below meth c H locs 0 0 (MQ below (QG G Sh r none) args s rmX1_dropChangeOf.cells rmX1_dropChangeOf.slots (AA G)) (F0 m 33 ls []) := by
        intro M v2 H locs ls hP hS hl h
        unfold fX1_dropChangeOf_33 at h
        refine lv_iinc (v := (v2 + (-1))) (lv' := [(2, .int (v2 + (-1))), (0, .ref a0), (1, .int a1)]) C.1 C.2.1 dX1_dropChangeOf_33 hl (k := 2) rfl rfl (by decide) rfl (fun ls hl => ?_)
        refine lv_goto (tgt := 7) C.1 C.2.1 dX1_dropChangeOf_36 (by decide) ?_
        have e := Option.some.inj h
        rw [← e] at hz1
        exact ih1 ((v2 + (-1))) M _ _ _ hP hS (lv_sub hl [1, 2, 0] rfl) (itK_inl hz1)
      unfold fX1_dropChangeOf_7b at h
      refine lv_iload_n C.1 C.2.1 dX1_dropChangeOf_7 rfl (lv_at hl 2 rfl) ?_
      refine b_lt (tgt := 39) C dX1_dropChangeOf_8 (by decide) h (fun h => ?_) (fun h => ?_)
      · have e := Option.some.inj h
        rw [← e] at hz1
        replace e := itK_inr hz1
        exact q_v C hlk hP hS hr rfl e.symm dX1_dropChangeOf_39
      · refine lv_aload_n C.1 C.2.1 dX1_dropChangeOf_11 rfl (lv_at hl 0 rfl) ?_
        refine lv_iload_n C.1 C.2.1 dX1_dropChangeOf_12 rfl (lv_at hl 2 rfl) ?_
        obtain ⟨r1, hc, h⟩ := bS h
        refine r_V1 C hK hX hb hP hS hl.1 (kX1_rankOf (hT) hc) hT cl_1 wd_441 mo_X1_rankOf wd_442 wd_443 ⟨Nat.le_of_ble_eq_true rfl, Nat.le_of_ble_eq_true rfl⟩ ⟨Nat.le_of_ble_eq_true rfl, Nat.le_of_ble_eq_true rfl⟩ rfl (rest := []) rfl (Nat.le_of_ble_eq_true rfl) dX1_dropChangeOf_13 (fun H locs hP hS => ?_)
        refine b_eq (tgt := 33) C dX1_dropChangeOf_16 (by decide) h (fun h => ?_) (fun h => ?_)
        · exact J33 (M) (v2) _ _ _ hP hS (lv_sub hl [0, 1, 2] rfl) h
        · refine lv_aload_n C.1 C.2.1 dX1_dropChangeOf_19 rfl (lv_at hl 0 rfl) ?_
          refine lv_iload_n C.1 C.2.1 dX1_dropChangeOf_20 rfl (lv_at hl 2 rfl) ?_
          obtain ⟨r2, hc, h⟩ := bS h
          refine r_V1 C hK hX hb hP hS hl.1 (kX1_targetOf (hT) hc) hT cl_1 wd_653 mo_X1_targetOf wd_654 wd_655 ⟨Nat.le_of_ble_eq_true rfl, Nat.le_of_ble_eq_true rfl⟩ ⟨Nat.le_of_ble_eq_true rfl, Nat.le_of_ble_eq_true rfl⟩ rfl (rest := []) rfl (Nat.le_of_ble_eq_true rfl) dX1_dropChangeOf_21 (fun H locs hP hS => ?_)
          refine lv_iload_n C.1 C.2.1 dX1_dropChangeOf_24 rfl (lv_at hl 1 rfl) ?_
          refine b_ine (tgt := 33) C dX1_dropChangeOf_25 (by decide) h (fun h => ?_) (fun h => ?_)
          · refine lv_aload_n C.1 C.2.1 dX1_dropChangeOf_28 rfl (lv_at hl 0 rfl) ?_
            refine lv_iload_n C.1 C.2.1 dX1_dropChangeOf_29 rfl (lv_at hl 2 rfl) ?_
            obtain ⟨r3, hc, h⟩ := bS h
            refine r_V0 C hK hX hb hP hS hl.1 (kX1_drop (hT) hc) hT cl_1 wd_449 mo_X1_drop wd_451 wd_5 ⟨Nat.le_of_ble_eq_true rfl, Nat.le_of_ble_eq_true rfl⟩ ⟨Nat.le_of_ble_eq_true rfl, Nat.le_of_ble_eq_true rfl⟩ rfl (rest := []) rfl (Nat.le_of_ble_eq_true rfl) dX1_dropChangeOf_30 (fun H locs hP hS => ?_)
            exact J33 (r3) (v2) _ _ _ hP hS (lv_sub hl [0, 1, 2] rfl) h
          · exact J33 (M) (v2) _ _ _ hP hS (lv_sub hl [0, 1, 2] rfl) h
  unfold fX1_dropChangeOf at h
  refine lv_aload_n C.1 C.2.1 dX1_dropChangeOf_0 rfl (lv_at hl 0 rfl) ?_
  refine r_tI C hK hP hT cl_1 (k := 0) (by decide) wd_189 rfl dX1_dropChangeOf_1 h (fun x4 h => ?_)
  refine lv_iconst (v := 1) C.1 C.2.1 dX1_dropChangeOf_4 (by decide) ?_
  refine lv_isub C.1 C.2.1 dX1_dropChangeOf_5 ?_
  refine lv_istore_n (lv' := [(2, .int (x4 - 1)), (0, .ref a0), (1, .int a1)]) C.1 C.2.1 dX1_dropChangeOf_6 rfl hl (by decide) rfl (fun ls hl => ?_)
  exact J7  n ((x4 - 1)) M _ _ _ hP hS (lv_sub hl [1, 2, 0] rfl) h
theorem dX1_dropPolite_0 : decode cX1_dropPolite 0 = .ok (.aload_n 0, 1) := by decide +kernel
theorem dX1_dropPolite_1 : decode cX1_dropPolite 1 = .ok (.getfield 9, 3) := by decide +kernel
theorem dX1_dropPolite_4 : decode cX1_dropPolite 4 = .ok (.iconst 1, 1) := by decide +kernel
theorem dX1_dropPolite_5 : decode cX1_dropPolite 5 = .ok (.isub, 1) := by decide +kernel
theorem dX1_dropPolite_6 : decode cX1_dropPolite 6 = .ok (.istore_n 2, 1) := by decide +kernel
theorem dX1_dropPolite_7 : decode cX1_dropPolite 7 = .ok (.iload_n 2, 1) := by decide +kernel
theorem dX1_dropPolite_8 : decode cX1_dropPolite 8 = .ok (.ifCond .lt 32, 3) := by decide +kernel
theorem dX1_dropPolite_11 : decode cX1_dropPolite 11 = .ok (.aload_n 0, 1) := by decide +kernel
theorem dX1_dropPolite_12 : decode cX1_dropPolite 12 = .ok (.iload_n 2, 1) := by decide +kernel
theorem dX1_dropPolite_13 : decode cX1_dropPolite 13 = .ok (.invokevirtual 48, 3) := by decide +kernel
theorem dX1_dropPolite_16 : decode cX1_dropPolite 16 = .ok (.iconst 2, 1) := by decide +kernel
theorem dX1_dropPolite_17 : decode cX1_dropPolite 17 = .ok (.if_icmp .ne 17, 3) := by decide +kernel
theorem dX1_dropPolite_20 : decode cX1_dropPolite 20 = .ok (.aload_n 0, 1) := by decide +kernel
theorem dX1_dropPolite_21 : decode cX1_dropPolite 21 = .ok (.iload_n 2, 1) := by decide +kernel
theorem dX1_dropPolite_22 : decode cX1_dropPolite 22 = .ok (.invokevirtual 55, 3) := by decide +kernel
theorem dX1_dropPolite_25 : decode cX1_dropPolite 25 = .ok (.iload_n 1, 1) := by decide +kernel
theorem dX1_dropPolite_26 : decode cX1_dropPolite 26 = .ok (.if_icmp .ne 8, 3) := by decide +kernel
theorem dX1_dropPolite_29 : decode cX1_dropPolite 29 = .ok (.aload_n 0, 1) := by decide +kernel
theorem dX1_dropPolite_30 : decode cX1_dropPolite 30 = .ok (.iload_n 2, 1) := by decide +kernel
theorem dX1_dropPolite_31 : decode cX1_dropPolite 31 = .ok (.invokevirtual 68, 3) := by decide +kernel
theorem dX1_dropPolite_34 : decode cX1_dropPolite 34 = .ok (.iinc 2 (-1), 3) := by decide +kernel
theorem dX1_dropPolite_37 : decode cX1_dropPolite 37 = .ok (.goto (-30), 3) := by decide +kernel
theorem dX1_dropPolite_40 : decode cX1_dropPolite 40 = .ok (.return_, 1) := by decide +kernel
abbrev rmX1_dropPolite : Room := { frames := 3, cells := 0, slots := 0, locals := 84 }
noncomputable def fX1_dropPolite_34 (n : Nat) (Sh : Sp) (a0 : Nat) (a1 : Int32) (M : Mm) (v2 : Int32) : Option ((Int32 × Mm) ⊕ Mm) :=
  some (Sum.inl ((v2 + (-1)), M))
noncomputable def fX1_dropPolite_7b (n : Nat) (Sh : Sp) (a0 : Nat) (a1 : Int32) (M : Mm) (v2 : Int32) : Option ((Int32 × Mm) ⊕ Mm) :=
  if v2 < 0 then
    some (Sum.inr M)
  else
    (fX1_rankOf n Sh M a0 v2).bind fun r1 =>
    if r1 = 2 then
      (fX1_regionOf n Sh M a0 v2).bind fun r2 =>
      if r2 = a1 then
        (fX1_drop n Sh M a0 v2).bind fun r3 =>
        fX1_dropPolite_34 n Sh a0 a1 r3 v2
      else
        fX1_dropPolite_34 n Sh a0 a1 M v2
    else
      fX1_dropPolite_34 n Sh a0 a1 M v2
noncomputable def fX1_dropPolite_7 (n : Nat) (Sh : Sp) (a0 : Nat) (a1 : Int32) (M : Mm) (v2 : Int32) : Option Mm :=
  iter n (fun s => fX1_dropPolite_7b n Sh a0 a1 s.2 s.1) (v2, M)
noncomputable def fX1_dropPolite (n : Nat) (Sh : Sp) (M : Mm) (a0 : Nat) (a1 : Int32) : Option Mm :=
  tI M a0 0 fun x4 =>
  fX1_dropPolite_7 n Sh a0 a1 M (x4 - 1)
set_option maxRecDepth 100000 in
set_option maxHeartbeats 4000000 in
theorem kX1_dropPolite {l : Launch} {G : Gt} {n : Nat} {Sh : Sp} {M : Mm} {a0 : Nat} {a1 : Int32} (hT : Sh a0 = some (.inl 1)) {r : Mm} (h : fX1_dropPolite n Sh M a0 a1 = some r) : Ct l yX1_dropPolite cX1_dropPolite 3 none rmX1_dropPolite G Sh M [.ref a0, .int a1] none r := by
  refine Ct.of (by decide) (Nat.le_of_ble_eq_true rfl) ?_
  intro p e s m args below meth c ls C hK hX hP hS hb hlk hr hl
  replace hl : lv_has ls 3 [(0, .ref a0), (1, .int a1)] := hl
  have J7 : ∀ (k : Nat) (v2 : Int32) (M : Mm) (H : Heap) (locs : List Loc) (ls : Array Slot), HM G Sh M H → SS G s s.heap.size H locs → lv_has ls 3 [(0, .ref a0), (1, .int a1), (2, .int v2)] → iter k (fun s => fX1_dropPolite_7b n Sh a0 a1 s.2 s.1) (v2, M) = some r → W p l e rmX1_dropPolite s m args below meth c H locs 0 0 (MQ below (QG G Sh r none) args s rmX1_dropPolite.cells rmX1_dropPolite.slots (AA G)) (F0 m 7 ls []) := by
    intro k
    induction k with
    | zero => intro v2 M H locs ls hP hS hl h; exact (iter_0 h).elim
    | succ k ih1 =>
      intro v2 M H locs ls hP hS hl h
      obtain ⟨z1, h, hz1⟩ := iter_some h
      replace h : fX1_dropPolite_7b n Sh a0 a1 M v2 = some z1 := h
      have J34 : ∀ (M : Mm) (v2 : Int32) (H : Heap) (locs : List Loc) (ls : Array Slot), HM G Sh M H → SS G s s.heap.size H locs → lv_has ls 3 [(0, .ref a0), (1, .int a1), (2, .int v2)] → fX1_dropPolite_34 n Sh a0 a1 M v2 = some z1 → W p l e rmX1_dropPolite s m args below meth c H locs 0 0 (MQ below (QG G Sh r none) args s rmX1_dropPolite.cells rmX1_dropPolite.slots (AA G)) (F0 m 34 ls []) := by
        intro M v2 H locs ls hP hS hl h
        unfold fX1_dropPolite_34 at h
        refine lv_iinc (v := (v2 + (-1))) (lv' := [(2, .int (v2 + (-1))), (0, .ref a0), (1, .int a1)]) C.1 C.2.1 dX1_dropPolite_34 hl (k := 2) rfl rfl (by decide) rfl (fun ls hl => ?_)
        refine lv_goto (tgt := 7) C.1 C.2.1 dX1_dropPolite_37 (by decide) ?_
        have e := Option.some.inj h
        rw [← e] at hz1
        exact ih1 ((v2 + (-1))) M _ _ _ hP hS (lv_sub hl [1, 2, 0] rfl) (itK_inl hz1)
      unfold fX1_dropPolite_7b at h
      refine lv_iload_n C.1 C.2.1 dX1_dropPolite_7 rfl (lv_at hl 2 rfl) ?_
      refine b_lt (tgt := 40) C dX1_dropPolite_8 (by decide) h (fun h => ?_) (fun h => ?_)
      · have e := Option.some.inj h
        rw [← e] at hz1
        replace e := itK_inr hz1
        exact q_v C hlk hP hS hr rfl e.symm dX1_dropPolite_40
      · refine lv_aload_n C.1 C.2.1 dX1_dropPolite_11 rfl (lv_at hl 0 rfl) ?_
        refine lv_iload_n C.1 C.2.1 dX1_dropPolite_12 rfl (lv_at hl 2 rfl) ?_
        obtain ⟨r1, hc, h⟩ := bS h
        refine r_V1 C hK hX hb hP hS hl.1 (kX1_rankOf (hT) hc) hT cl_1 wd_441 mo_X1_rankOf wd_442 wd_443 ⟨Nat.le_of_ble_eq_true rfl, Nat.le_of_ble_eq_true rfl⟩ ⟨Nat.le_of_ble_eq_true rfl, Nat.le_of_ble_eq_true rfl⟩ rfl (rest := []) rfl (Nat.le_of_ble_eq_true rfl) dX1_dropPolite_13 (fun H locs hP hS => ?_)
        refine lv_iconst (v := 2) C.1 C.2.1 dX1_dropPolite_16 (by decide) ?_
        refine b_ine (tgt := 34) C dX1_dropPolite_17 (by decide) h (fun h => ?_) (fun h => ?_)
        · refine lv_aload_n C.1 C.2.1 dX1_dropPolite_20 rfl (lv_at hl 0 rfl) ?_
          refine lv_iload_n C.1 C.2.1 dX1_dropPolite_21 rfl (lv_at hl 2 rfl) ?_
          obtain ⟨r2, hc, h⟩ := bS h
          refine r_V1 C hK hX hb hP hS hl.1 (kX1_regionOf (hT) hc) hT cl_1 wd_657 mo_X1_regionOf wd_658 wd_659 ⟨Nat.le_of_ble_eq_true rfl, Nat.le_of_ble_eq_true rfl⟩ ⟨Nat.le_of_ble_eq_true rfl, Nat.le_of_ble_eq_true rfl⟩ rfl (rest := []) rfl (Nat.le_of_ble_eq_true rfl) dX1_dropPolite_22 (fun H locs hP hS => ?_)
          refine lv_iload_n C.1 C.2.1 dX1_dropPolite_25 rfl (lv_at hl 1 rfl) ?_
          refine b_ine (tgt := 34) C dX1_dropPolite_26 (by decide) h (fun h => ?_) (fun h => ?_)
          · refine lv_aload_n C.1 C.2.1 dX1_dropPolite_29 rfl (lv_at hl 0 rfl) ?_
            refine lv_iload_n C.1 C.2.1 dX1_dropPolite_30 rfl (lv_at hl 2 rfl) ?_
            obtain ⟨r3, hc, h⟩ := bS h
            refine r_V0 C hK hX hb hP hS hl.1 (kX1_drop (hT) hc) hT cl_1 wd_449 mo_X1_drop wd_451 wd_5 ⟨Nat.le_of_ble_eq_true rfl, Nat.le_of_ble_eq_true rfl⟩ ⟨Nat.le_of_ble_eq_true rfl, Nat.le_of_ble_eq_true rfl⟩ rfl (rest := []) rfl (Nat.le_of_ble_eq_true rfl) dX1_dropPolite_31 (fun H locs hP hS => ?_)
            exact J34 (r3) (v2) _ _ _ hP hS (lv_sub hl [0, 1, 2] rfl) h
          · exact J34 (M) (v2) _ _ _ hP hS (lv_sub hl [0, 1, 2] rfl) h
        · exact J34 (M) (v2) _ _ _ hP hS (lv_sub hl [0, 1, 2] rfl) h
  unfold fX1_dropPolite at h
  refine lv_aload_n C.1 C.2.1 dX1_dropPolite_0 rfl (lv_at hl 0 rfl) ?_
  refine r_tI C hK hP hT cl_1 (k := 0) (by decide) wd_189 rfl dX1_dropPolite_1 h (fun x4 h => ?_)
  refine lv_iconst (v := 1) C.1 C.2.1 dX1_dropPolite_4 (by decide) ?_
  refine lv_isub C.1 C.2.1 dX1_dropPolite_5 ?_
  refine lv_istore_n (lv' := [(2, .int (x4 - 1)), (0, .ref a0), (1, .int a1)]) C.1 C.2.1 dX1_dropPolite_6 rfl hl (by decide) rfl (fun ls hl => ?_)
  exact J7  n ((x4 - 1)) M _ _ _ hP hS (lv_sub hl [1, 2, 0] rfl) h
theorem dX1_dropNodes_0 : decode cX1_dropNodes 0 = .ok (.aload_n 0, 1) := by decide +kernel
theorem dX1_dropNodes_1 : decode cX1_dropNodes 1 = .ok (.getfield 9, 3) := by decide +kernel
theorem dX1_dropNodes_4 : decode cX1_dropNodes 4 = .ok (.iconst 1, 1) := by decide +kernel
theorem dX1_dropNodes_5 : decode cX1_dropNodes 5 = .ok (.isub, 1) := by decide +kernel
theorem dX1_dropNodes_6 : decode cX1_dropNodes 6 = .ok (.istore_n 2, 1) := by decide +kernel
theorem dX1_dropNodes_7 : decode cX1_dropNodes 7 = .ok (.iload_n 2, 1) := by decide +kernel
theorem dX1_dropNodes_8 : decode cX1_dropNodes 8 = .ok (.ifCond .lt 38, 3) := by decide +kernel
theorem dX1_dropNodes_11 : decode cX1_dropNodes 11 = .ok (.iload_n 1, 1) := by decide +kernel
theorem dX1_dropNodes_12 : decode cX1_dropNodes 12 = .ok (.aload_n 0, 1) := by decide +kernel
theorem dX1_dropNodes_13 : decode cX1_dropNodes 13 = .ok (.iload_n 2, 1) := by decide +kernel
theorem dX1_dropNodes_14 : decode cX1_dropNodes 14 = .ok (.invokevirtual 52, 3) := by decide +kernel
theorem dX1_dropNodes_17 : decode cX1_dropNodes 17 = .ok (.invokestatic 74, 3) := by decide +kernel
theorem dX1_dropNodes_20 : decode cX1_dropNodes 20 = .ok (.ifCond .ne 15, 3) := by decide +kernel
theorem dX1_dropNodes_23 : decode cX1_dropNodes 23 = .ok (.iload_n 1, 1) := by decide +kernel
theorem dX1_dropNodes_24 : decode cX1_dropNodes 24 = .ok (.aload_n 0, 1) := by decide +kernel
theorem dX1_dropNodes_25 : decode cX1_dropNodes 25 = .ok (.iload_n 2, 1) := by decide +kernel
theorem dX1_dropNodes_26 : decode cX1_dropNodes 26 = .ok (.invokevirtual 55, 3) := by decide +kernel
theorem dX1_dropNodes_29 : decode cX1_dropNodes 29 = .ok (.invokestatic 74, 3) := by decide +kernel
theorem dX1_dropNodes_32 : decode cX1_dropNodes 32 = .ok (.ifCond .eq 8, 3) := by decide +kernel
theorem dX1_dropNodes_35 : decode cX1_dropNodes 35 = .ok (.aload_n 0, 1) := by decide +kernel
theorem dX1_dropNodes_36 : decode cX1_dropNodes 36 = .ok (.iload_n 2, 1) := by decide +kernel
theorem dX1_dropNodes_37 : decode cX1_dropNodes 37 = .ok (.invokevirtual 68, 3) := by decide +kernel
theorem dX1_dropNodes_40 : decode cX1_dropNodes 40 = .ok (.iinc 2 (-1), 3) := by decide +kernel
theorem dX1_dropNodes_43 : decode cX1_dropNodes 43 = .ok (.goto (-36), 3) := by decide +kernel
theorem dX1_dropNodes_46 : decode cX1_dropNodes 46 = .ok (.return_, 1) := by decide +kernel
abbrev rmX1_dropNodes : Room := { frames := 3, cells := 0, slots := 0, locals := 84 }
noncomputable def fX1_dropNodes_40 (n : Nat) (Sh : Sp) (a0 : Nat) (a1 : Int32) (M : Mm) (v2 : Int32) : Option ((Int32 × Mm) ⊕ Mm) :=
  some (Sum.inl ((v2 + (-1)), M))
noncomputable def fX1_dropNodes_35 (n : Nat) (Sh : Sp) (a0 : Nat) (a1 : Int32) (M : Mm) (v2 : Int32) : Option ((Int32 × Mm) ⊕ Mm) :=
  (fX1_drop n Sh M a0 v2).bind fun r1 =>
  fX1_dropNodes_40 n Sh a0 a1 r1 v2
noncomputable def fX1_dropNodes_7b (n : Nat) (Sh : Sp) (a0 : Nat) (a1 : Int32) (M : Mm) (v2 : Int32) : Option ((Int32 × Mm) ⊕ Mm) :=
  if v2 < 0 then
    some (Sum.inr M)
  else
    (fX1_targetOf n Sh M a0 v2).bind fun r2 =>
    (fX6_isIn n Sh M a1 r2).bind fun r3 =>
    if r3 = 0 then
      (fX1_regionOf n Sh M a0 v2).bind fun r4 =>
      (fX6_isIn n Sh M a1 r4).bind fun r5 =>
      if r5 = 0 then
        fX1_dropNodes_40 n Sh a0 a1 M v2
      else
        fX1_dropNodes_35 n Sh a0 a1 M v2
    else
      fX1_dropNodes_35 n Sh a0 a1 M v2
noncomputable def fX1_dropNodes_7 (n : Nat) (Sh : Sp) (a0 : Nat) (a1 : Int32) (M : Mm) (v2 : Int32) : Option Mm :=
  iter n (fun s => fX1_dropNodes_7b n Sh a0 a1 s.2 s.1) (v2, M)
noncomputable def fX1_dropNodes (n : Nat) (Sh : Sp) (M : Mm) (a0 : Nat) (a1 : Int32) : Option Mm :=
  tI M a0 0 fun x6 =>
  fX1_dropNodes_7 n Sh a0 a1 M (x6 - 1)
set_option maxRecDepth 100000 in
set_option maxHeartbeats 4000000 in
theorem kX1_dropNodes {l : Launch} {G : Gt} {n : Nat} {Sh : Sp} {M : Mm} {a0 : Nat} {a1 : Int32} (hT : Sh a0 = some (.inl 1)) {r : Mm} (h : fX1_dropNodes n Sh M a0 a1 = some r) : Ct l yX1_dropNodes cX1_dropNodes 3 none rmX1_dropNodes G Sh M [.ref a0, .int a1] none r := by
  refine Ct.of (by decide) (Nat.le_of_ble_eq_true rfl) ?_
  intro p e s m args below meth c ls C hK hX hP hS hb hlk hr hl
  replace hl : lv_has ls 3 [(0, .ref a0), (1, .int a1)] := hl
  have J7 : ∀ (k : Nat) (v2 : Int32) (M : Mm) (H : Heap) (locs : List Loc) (ls : Array Slot), HM G Sh M H → SS G s s.heap.size H locs → lv_has ls 3 [(0, .ref a0), (1, .int a1), (2, .int v2)] → iter k (fun s => fX1_dropNodes_7b n Sh a0 a1 s.2 s.1) (v2, M) = some r → W p l e rmX1_dropNodes s m args below meth c H locs 0 0 (MQ below (QG G Sh r none) args s rmX1_dropNodes.cells rmX1_dropNodes.slots (AA G)) (F0 m 7 ls []) := by
    intro k
    induction k with
    | zero => intro v2 M H locs ls hP hS hl h; exact (iter_0 h).elim
    | succ k ih1 =>
      intro v2 M H locs ls hP hS hl h
      obtain ⟨z1, h, hz1⟩ := iter_some h
      replace h : fX1_dropNodes_7b n Sh a0 a1 M v2 = some z1 := h
      have J40 : ∀ (M : Mm) (v2 : Int32) (H : Heap) (locs : List Loc) (ls : Array Slot), HM G Sh M H → SS G s s.heap.size H locs → lv_has ls 3 [(0, .ref a0), (1, .int a1), (2, .int v2)] → fX1_dropNodes_40 n Sh a0 a1 M v2 = some z1 → W p l e rmX1_dropNodes s m args below meth c H locs 0 0 (MQ below (QG G Sh r none) args s rmX1_dropNodes.cells rmX1_dropNodes.slots (AA G)) (F0 m 40 ls []) := by
        intro M v2 H locs ls hP hS hl h
        unfold fX1_dropNodes_40 at h
        refine lv_iinc (v := (v2 + (-1))) (lv' := [(2, .int (v2 + (-1))), (0, .ref a0), (1, .int a1)]) C.1 C.2.1 dX1_dropNodes_40 hl (k := 2) rfl rfl (by decide) rfl (fun ls hl => ?_)
        refine lv_goto (tgt := 7) C.1 C.2.1 dX1_dropNodes_43 (by decide) ?_
        have e := Option.some.inj h
        rw [← e] at hz1
        exact ih1 ((v2 + (-1))) M _ _ _ hP hS (lv_sub hl [1, 2, 0] rfl) (itK_inl hz1)
      have J35 : ∀ (M : Mm) (v2 : Int32) (H : Heap) (locs : List Loc) (ls : Array Slot), HM G Sh M H → SS G s s.heap.size H locs → lv_has ls 3 [(0, .ref a0), (1, .int a1), (2, .int v2)] → fX1_dropNodes_35 n Sh a0 a1 M v2 = some z1 → W p l e rmX1_dropNodes s m args below meth c H locs 0 0 (MQ below (QG G Sh r none) args s rmX1_dropNodes.cells rmX1_dropNodes.slots (AA G)) (F0 m 35 ls []) := by
        intro M v2 H locs ls hP hS hl h
        unfold fX1_dropNodes_35 at h
        refine lv_aload_n C.1 C.2.1 dX1_dropNodes_35 rfl (lv_at hl 0 rfl) ?_
        refine lv_iload_n C.1 C.2.1 dX1_dropNodes_36 rfl (lv_at hl 2 rfl) ?_
        obtain ⟨r1, hc, h⟩ := bS h
        refine r_V0 C hK hX hb hP hS hl.1 (kX1_drop (hT) hc) hT cl_1 wd_449 mo_X1_drop wd_451 wd_5 ⟨Nat.le_of_ble_eq_true rfl, Nat.le_of_ble_eq_true rfl⟩ ⟨Nat.le_of_ble_eq_true rfl, Nat.le_of_ble_eq_true rfl⟩ rfl (rest := []) rfl (Nat.le_of_ble_eq_true rfl) dX1_dropNodes_37 (fun H locs hP hS => ?_)
        exact J40 (r1) (v2) _ _ _ hP hS (lv_sub hl [0, 1, 2] rfl) h
      unfold fX1_dropNodes_7b at h
      refine lv_iload_n C.1 C.2.1 dX1_dropNodes_7 rfl (lv_at hl 2 rfl) ?_
      refine b_lt (tgt := 46) C dX1_dropNodes_8 (by decide) h (fun h => ?_) (fun h => ?_)
      · have e := Option.some.inj h
        rw [← e] at hz1
        replace e := itK_inr hz1
        exact q_v C hlk hP hS hr rfl e.symm dX1_dropNodes_46
      · refine lv_iload_n C.1 C.2.1 dX1_dropNodes_11 rfl (lv_at hl 1 rfl) ?_
        refine lv_aload_n C.1 C.2.1 dX1_dropNodes_12 rfl (lv_at hl 0 rfl) ?_
        refine lv_iload_n C.1 C.2.1 dX1_dropNodes_13 rfl (lv_at hl 2 rfl) ?_
        obtain ⟨r2, hc, h⟩ := bS h
        refine r_V1 C hK hX hb hP hS hl.1 (kX1_targetOf (hT) hc) hT cl_1 wd_653 mo_X1_targetOf wd_654 wd_655 ⟨Nat.le_of_ble_eq_true rfl, Nat.le_of_ble_eq_true rfl⟩ ⟨Nat.le_of_ble_eq_true rfl, Nat.le_of_ble_eq_true rfl⟩ rfl (rest := [.int a1]) rfl (Nat.le_of_ble_eq_true rfl) dX1_dropNodes_14 (fun H locs hP hS => ?_)
        obtain ⟨r3, hc, h⟩ := bS h
        refine r_SN1 C hK hX hb hP hS hl.1 (kX6_isIn hc) (hX.nws wd_813) mo_X6_isIn wd_803 ⟨Nat.le_of_ble_eq_true rfl, Nat.le_of_ble_eq_true rfl⟩ ⟨Nat.le_of_ble_eq_true rfl, Nat.le_of_ble_eq_true rfl⟩ rfl (rest := []) rfl (Nat.le_of_ble_eq_true rfl) dX1_dropNodes_17 (fun H locs hP hS => ?_)
        refine b_ne (tgt := 35) C dX1_dropNodes_20 (by decide) h (fun h => ?_) (fun h => ?_)
        · refine lv_iload_n C.1 C.2.1 dX1_dropNodes_23 rfl (lv_at hl 1 rfl) ?_
          refine lv_aload_n C.1 C.2.1 dX1_dropNodes_24 rfl (lv_at hl 0 rfl) ?_
          refine lv_iload_n C.1 C.2.1 dX1_dropNodes_25 rfl (lv_at hl 2 rfl) ?_
          obtain ⟨r4, hc, h⟩ := bS h
          refine r_V1 C hK hX hb hP hS hl.1 (kX1_regionOf (hT) hc) hT cl_1 wd_657 mo_X1_regionOf wd_658 wd_659 ⟨Nat.le_of_ble_eq_true rfl, Nat.le_of_ble_eq_true rfl⟩ ⟨Nat.le_of_ble_eq_true rfl, Nat.le_of_ble_eq_true rfl⟩ rfl (rest := [.int a1]) rfl (Nat.le_of_ble_eq_true rfl) dX1_dropNodes_26 (fun H locs hP hS => ?_)
          obtain ⟨r5, hc, h⟩ := bS h
          refine r_SN1 C hK hX hb hP hS hl.1 (kX6_isIn hc) (hX.nws wd_813) mo_X6_isIn wd_803 ⟨Nat.le_of_ble_eq_true rfl, Nat.le_of_ble_eq_true rfl⟩ ⟨Nat.le_of_ble_eq_true rfl, Nat.le_of_ble_eq_true rfl⟩ rfl (rest := []) rfl (Nat.le_of_ble_eq_true rfl) dX1_dropNodes_29 (fun H locs hP hS => ?_)
          refine b_eq (tgt := 40) C dX1_dropNodes_32 (by decide) h (fun h => ?_) (fun h => ?_)
          · exact J40 (M) (v2) _ _ _ hP hS (lv_sub hl [0, 1, 2] rfl) h
          · exact J35 (M) (v2) _ _ _ hP hS (lv_sub hl [0, 1, 2] rfl) h
        · exact J35 (M) (v2) _ _ _ hP hS (lv_sub hl [0, 1, 2] rfl) h
  unfold fX1_dropNodes at h
  refine lv_aload_n C.1 C.2.1 dX1_dropNodes_0 rfl (lv_at hl 0 rfl) ?_
  refine r_tI C hK hP hT cl_1 (k := 0) (by decide) wd_189 rfl dX1_dropNodes_1 h (fun x6 h => ?_)
  refine lv_iconst (v := 1) C.1 C.2.1 dX1_dropNodes_4 (by decide) ?_
  refine lv_isub C.1 C.2.1 dX1_dropNodes_5 ?_
  refine lv_istore_n (lv' := [(2, .int (x6 - 1)), (0, .ref a0), (1, .int a1)]) C.1 C.2.1 dX1_dropNodes_6 rfl hl (by decide) rfl (fun ls hl => ?_)
  exact J7  n ((x6 - 1)) M _ _ _ hP hS (lv_sub hl [1, 2, 0] rfl) h
theorem dX2_admitsIn_0 : decode cX2_admitsIn 0 = .ok (.aload_n 0, 1) := by decide +kernel
theorem dX2_admitsIn_1 : decode cX2_admitsIn 1 = .ok (.getfield 22, 3) := by decide +kernel
theorem dX2_admitsIn_4 : decode cX2_admitsIn 4 = .ok (.getfield 26, 3) := by decide +kernel
theorem dX2_admitsIn_7 : decode cX2_admitsIn 7 = .ok (.astore_n 3, 1) := by decide +kernel
theorem dX2_admitsIn_8 : decode cX2_admitsIn 8 = .ok (.aload_n 3, 1) := by decide +kernel
theorem dX2_admitsIn_9 : decode cX2_admitsIn 9 = .ok (.iload_n 1, 1) := by decide +kernel
theorem dX2_admitsIn_10 : decode cX2_admitsIn 10 = .ok (.invokevirtual 68, 3) := by decide +kernel
theorem dX2_admitsIn_13 : decode cX2_admitsIn 13 = .ok (.istore 4, 2) := by decide +kernel
theorem dX2_admitsIn_15 : decode cX2_admitsIn 15 = .ok (.iload 4, 2) := by decide +kernel
theorem dX2_admitsIn_17 : decode cX2_admitsIn 17 = .ok (.iconst 2, 1) := by decide +kernel
theorem dX2_admitsIn_18 : decode cX2_admitsIn 18 = .ok (.if_icmp .eq 17, 3) := by decide +kernel
theorem dX2_admitsIn_21 : decode cX2_admitsIn 21 = .ok (.iload 4, 2) := by decide +kernel
theorem dX2_admitsIn_23 : decode cX2_admitsIn 23 = .ok (.iconst 3, 1) := by decide +kernel
theorem dX2_admitsIn_24 : decode cX2_admitsIn 24 = .ok (.if_icmp .eq 11, 3) := by decide +kernel
theorem dX2_admitsIn_27 : decode cX2_admitsIn 27 = .ok (.iload 4, 2) := by decide +kernel
theorem dX2_admitsIn_29 : decode cX2_admitsIn 29 = .ok (.iconst 5, 1) := by decide +kernel
theorem dX2_admitsIn_30 : decode cX2_admitsIn 30 = .ok (.if_icmp .eq 5, 3) := by decide +kernel
theorem dX2_admitsIn_33 : decode cX2_admitsIn 33 = .ok (.iconst 0, 1) := by decide +kernel
theorem dX2_admitsIn_34 : decode cX2_admitsIn 34 = .ok (.ireturn, 1) := by decide +kernel
theorem dX2_admitsIn_35 : decode cX2_admitsIn 35 = .ok (.aload_n 3, 1) := by decide +kernel
theorem dX2_admitsIn_36 : decode cX2_admitsIn 36 = .ok (.iload_n 1, 1) := by decide +kernel
theorem dX2_admitsIn_37 : decode cX2_admitsIn 37 = .ok (.iconst 1, 1) := by decide +kernel
theorem dX2_admitsIn_38 : decode cX2_admitsIn 38 = .ok (.invokevirtual 64, 3) := by decide +kernel
theorem dX2_admitsIn_41 : decode cX2_admitsIn 41 = .ok (.iconst 1, 1) := by decide +kernel
theorem dX2_admitsIn_42 : decode cX2_admitsIn 42 = .ok (.if_icmp .eq 21, 3) := by decide +kernel
theorem dX2_admitsIn_45 : decode cX2_admitsIn 45 = .ok (.aload_n 3, 1) := by decide +kernel
theorem dX2_admitsIn_46 : decode cX2_admitsIn 46 = .ok (.iload_n 1, 1) := by decide +kernel
theorem dX2_admitsIn_47 : decode cX2_admitsIn 47 = .ok (.iconst 2, 1) := by decide +kernel
theorem dX2_admitsIn_48 : decode cX2_admitsIn 48 = .ok (.invokevirtual 64, 3) := by decide +kernel
theorem dX2_admitsIn_51 : decode cX2_admitsIn 51 = .ok (.iconst (-1), 1) := by decide +kernel
theorem dX2_admitsIn_52 : decode cX2_admitsIn 52 = .ok (.if_icmp .eq 11, 3) := by decide +kernel
theorem dX2_admitsIn_55 : decode cX2_admitsIn 55 = .ok (.aload_n 3, 1) := by decide +kernel
theorem dX2_admitsIn_56 : decode cX2_admitsIn 56 = .ok (.iload_n 1, 1) := by decide +kernel
theorem dX2_admitsIn_57 : decode cX2_admitsIn 57 = .ok (.invokevirtual 71, 3) := by decide +kernel
theorem dX2_admitsIn_60 : decode cX2_admitsIn 60 = .ok (.ifCond .ne 5, 3) := by decide +kernel
theorem dX2_admitsIn_63 : decode cX2_admitsIn 63 = .ok (.iconst 0, 1) := by decide +kernel
theorem dX2_admitsIn_64 : decode cX2_admitsIn 64 = .ok (.ireturn, 1) := by decide +kernel
theorem dX2_admitsIn_65 : decode cX2_admitsIn 65 = .ok (.iload_n 2, 1) := by decide +kernel
theorem dX2_admitsIn_66 : decode cX2_admitsIn 66 = .ok (.iconst (-1), 1) := by decide +kernel
theorem dX2_admitsIn_67 : decode cX2_admitsIn 67 = .ok (.if_icmp .eq 12, 3) := by decide +kernel
theorem dX2_admitsIn_70 : decode cX2_admitsIn 70 = .ok (.aload_n 3, 1) := by decide +kernel
theorem dX2_admitsIn_71 : decode cX2_admitsIn 71 = .ok (.iload_n 1, 1) := by decide +kernel
theorem dX2_admitsIn_72 : decode cX2_admitsIn 72 = .ok (.iload_n 2, 1) := by decide +kernel
theorem dX2_admitsIn_73 : decode cX2_admitsIn 73 = .ok (.invokevirtual 74, 3) := by decide +kernel
theorem dX2_admitsIn_76 : decode cX2_admitsIn 76 = .ok (.ifCond .eq 7, 3) := by decide +kernel
theorem dX2_admitsIn_79 : decode cX2_admitsIn 79 = .ok (.iconst 1, 1) := by decide +kernel
theorem dX2_admitsIn_80 : decode cX2_admitsIn 80 = .ok (.goto 4, 3) := by decide +kernel
theorem dX2_admitsIn_83 : decode cX2_admitsIn 83 = .ok (.iconst 0, 1) := by decide +kernel
theorem dX2_admitsIn_84 : decode cX2_admitsIn 84 = .ok (.ireturn, 1) := by decide +kernel
abbrev rmX2_admitsIn : Room := { frames := 4, cells := 0, slots := 0, locals := 106 }
noncomputable def fX2_admitsIn_79 (n : Nat) (Sh : Sp) (M : Mm) (a0 : Nat) (a1 : Int32) (a2 : Int32) : Option Int32 :=
  some 1
noncomputable def fX2_admitsIn_35 (n : Nat) (Sh : Sp) (M : Mm) (a0 : Nat) (a1 : Int32) (a2 : Int32) (v3 : Nat) : Option Int32 :=
  chk (Sh v3 = some (.inl 4)) <|
  (fX4_setting n Sh M v3 a1 1).bind fun r1 =>
  if r1 = 1 then
    some 0
  else
    chk (Sh v3 = some (.inl 4)) <|
    (fX4_setting n Sh M v3 a1 2).bind fun r2 =>
    if r2 = (-1) then
      some 0
    else
      chk (Sh v3 = some (.inl 4)) <|
      (fX4_isShown n Sh M v3 a1).bind fun r3 =>
      if r3 = 0 then
        some 0
      else
        if a2 = (-1) then
          fX2_admitsIn_79 n Sh M a0 a1 a2
        else
          chk (Sh v3 = some (.inl 4)) <|
          (fX4_liesBelow n Sh M v3 a1 a2).bind fun r4 =>
          if r4 = 0 then
            some 0
          else
            fX2_admitsIn_79 n Sh M a0 a1 a2
noncomputable def fX2_admitsIn (n : Nat) (Sh : Sp) (M : Mm) (a0 : Nat) (a1 : Int32) (a2 : Int32) : Option Int32 :=
  tF M a0 0 fun b5 =>
  gF Sh M b5 3 0 fun b6 =>
  chk (Sh b6 = some (.inl 4)) <|
  (fX4_roleOf n Sh M b6 a1).bind fun r7 =>
  if r7 = 2 then
    fX2_admitsIn_35 n Sh M a0 a1 a2 b6
  else
    if r7 = 3 then
      fX2_admitsIn_35 n Sh M a0 a1 a2 b6
    else
      if r7 = 5 then
        fX2_admitsIn_35 n Sh M a0 a1 a2 b6
      else
        some 0
set_option maxRecDepth 100000 in
set_option maxHeartbeats 4000000 in
theorem kX2_admitsIn {l : Launch} {G : Gt} {n : Nat} {Sh : Sp} {M : Mm} {a0 : Nat} {a1 : Int32} {a2 : Int32} (hT : Sh a0 = some (.inl 2)) {r : Int32} (h : fX2_admitsIn n Sh M a0 a1 a2 = some r) : Ct l yX2_admitsIn cX2_admitsIn 5 (some .boolean) rmX2_admitsIn G Sh M [.ref a0, .int a1, .int a2] (some (.int r)) M := by
  refine Ct.of (by decide) (Nat.le_of_ble_eq_true rfl) ?_
  intro p e s m args below meth c ls C hK hX hP hS hb hlk hr hl
  replace hl : lv_has ls 5 [(0, .ref a0), (1, .int a1), (2, .int a2)] := hl
  have J79 : ∀ (H : Heap) (locs : List Loc) (ls : Array Slot), HM G Sh M H → SS G s s.heap.size H locs → lv_has ls 5 [(0, .ref a0), (1, .int a1), (2, .int a2)] → fX2_admitsIn_79 n Sh M a0 a1 a2 = some r → W p l e rmX2_admitsIn s m args below meth c H locs 0 0 (MQ below (QG G Sh M (some (.int r))) args s rmX2_admitsIn.cells rmX2_admitsIn.slots (AA G)) (F0 m 79 ls []) := by
    intro  H locs ls hP hS hl h
    unfold fX2_admitsIn_79 at h
    refine lv_iconst (v := 1) C.1 C.2.1 dX2_admitsIn_79 (by decide) ?_
    refine lv_goto (tgt := 84) C.1 C.2.1 dX2_admitsIn_80 (by decide) ?_
    have e := Option.some.inj h
    exact q_z C hlk hP hS hr (by decide) (by rw [← e]) rfl dX2_admitsIn_84
  have J35 : ∀ (v3 : Nat) (H : Heap) (locs : List Loc) (ls : Array Slot), HM G Sh M H → SS G s s.heap.size H locs → lv_has ls 5 [(0, .ref a0), (1, .int a1), (2, .int a2), (3, .ref v3)] → fX2_admitsIn_35 n Sh M a0 a1 a2 v3 = some r → W p l e rmX2_admitsIn s m args below meth c H locs 0 0 (MQ below (QG G Sh M (some (.int r))) args s rmX2_admitsIn.cells rmX2_admitsIn.slots (AA G)) (F0 m 35 ls []) := by
    intro v3 H locs ls hP hS hl h
    unfold fX2_admitsIn_35 at h
    refine lv_aload_n C.1 C.2.1 dX2_admitsIn_35 rfl (lv_at hl 3 rfl) ?_
    refine lv_iload_n C.1 C.2.1 dX2_admitsIn_36 rfl (lv_at hl 1 rfl) ?_
    refine lv_iconst (v := 1) C.1 C.2.1 dX2_admitsIn_37 (by decide) ?_
    obtain ⟨hs, h⟩ := chk_some h
    obtain ⟨r1, hc, h⟩ := bS h
    refine r_V1 C hK hX hb hP hS hl.1 (kX4_setting (hs) hc) hs cl_4 wd_366 mo_X4_setting wd_355 wd_356 ⟨Nat.le_of_ble_eq_true rfl, Nat.le_of_ble_eq_true rfl⟩ ⟨Nat.le_of_ble_eq_true rfl, Nat.le_of_ble_eq_true rfl⟩ rfl (rest := []) rfl (Nat.le_of_ble_eq_true rfl) dX2_admitsIn_38 (fun H locs hP hS => ?_)
    refine lv_iconst (v := 1) C.1 C.2.1 dX2_admitsIn_41 (by decide) ?_
    refine b_ieq (tgt := 63) C dX2_admitsIn_42 (by decide) h (fun h => ?_) (fun h => ?_)
    · refine lv_iconst (v := 0) C.1 C.2.1 dX2_admitsIn_63 (by decide) ?_
      have e := Option.some.inj h
      exact q_z C hlk hP hS hr (by decide) (by rw [← e]) rfl dX2_admitsIn_64
    · refine lv_aload_n C.1 C.2.1 dX2_admitsIn_45 rfl (lv_at hl 3 rfl) ?_
      refine lv_iload_n C.1 C.2.1 dX2_admitsIn_46 rfl (lv_at hl 1 rfl) ?_
      refine lv_iconst (v := 2) C.1 C.2.1 dX2_admitsIn_47 (by decide) ?_
      obtain ⟨hs, h⟩ := chk_some h
      obtain ⟨r2, hc, h⟩ := bS h
      refine r_V1 C hK hX hb hP hS hl.1 (kX4_setting (hs) hc) hs cl_4 wd_366 mo_X4_setting wd_355 wd_356 ⟨Nat.le_of_ble_eq_true rfl, Nat.le_of_ble_eq_true rfl⟩ ⟨Nat.le_of_ble_eq_true rfl, Nat.le_of_ble_eq_true rfl⟩ rfl (rest := []) rfl (Nat.le_of_ble_eq_true rfl) dX2_admitsIn_48 (fun H locs hP hS => ?_)
      refine lv_iconst (v := (-1)) C.1 C.2.1 dX2_admitsIn_51 (by decide) ?_
      refine b_ieq (tgt := 63) C dX2_admitsIn_52 (by decide) h (fun h => ?_) (fun h => ?_)
      · refine lv_iconst (v := 0) C.1 C.2.1 dX2_admitsIn_63 (by decide) ?_
        have e := Option.some.inj h
        exact q_z C hlk hP hS hr (by decide) (by rw [← e]) rfl dX2_admitsIn_64
      · refine lv_aload_n C.1 C.2.1 dX2_admitsIn_55 rfl (lv_at hl 3 rfl) ?_
        refine lv_iload_n C.1 C.2.1 dX2_admitsIn_56 rfl (lv_at hl 1 rfl) ?_
        obtain ⟨hs, h⟩ := chk_some h
        obtain ⟨r3, hc, h⟩ := bS h
        refine r_V1 C hK hX hb hP hS hl.1 (kX4_isShown (hs) hc) hs cl_4 wd_372 mo_X4_isShown wd_347 wd_348 ⟨Nat.le_of_ble_eq_true rfl, Nat.le_of_ble_eq_true rfl⟩ ⟨Nat.le_of_ble_eq_true rfl, Nat.le_of_ble_eq_true rfl⟩ rfl (rest := []) rfl (Nat.le_of_ble_eq_true rfl) dX2_admitsIn_57 (fun H locs hP hS => ?_)
        refine b_ne (tgt := 65) C dX2_admitsIn_60 (by decide) h (fun h => ?_) (fun h => ?_)
        · refine lv_iconst (v := 0) C.1 C.2.1 dX2_admitsIn_63 (by decide) ?_
          have e := Option.some.inj h
          exact q_z C hlk hP hS hr (by decide) (by rw [← e]) rfl dX2_admitsIn_64
        · refine lv_iload_n C.1 C.2.1 dX2_admitsIn_65 rfl (lv_at hl 2 rfl) ?_
          refine lv_iconst (v := (-1)) C.1 C.2.1 dX2_admitsIn_66 (by decide) ?_
          refine b_ieq (tgt := 79) C dX2_admitsIn_67 (by decide) h (fun h => ?_) (fun h => ?_)
          · exact J79  _ _ _ hP hS (lv_sub hl [0, 1, 2] rfl) h
          · refine lv_aload_n C.1 C.2.1 dX2_admitsIn_70 rfl (lv_at hl 3 rfl) ?_
            refine lv_iload_n C.1 C.2.1 dX2_admitsIn_71 rfl (lv_at hl 1 rfl) ?_
            refine lv_iload_n C.1 C.2.1 dX2_admitsIn_72 rfl (lv_at hl 2 rfl) ?_
            obtain ⟨hs, h⟩ := chk_some h
            obtain ⟨r4, hc, h⟩ := bS h
            refine r_V1 C hK hX hb hP hS hl.1 (kX4_liesBelow (hs) hc) hs cl_4 wd_373 mo_X4_liesBelow wd_302 wd_303 ⟨Nat.le_of_ble_eq_true rfl, Nat.le_of_ble_eq_true rfl⟩ ⟨Nat.le_of_ble_eq_true rfl, Nat.le_of_ble_eq_true rfl⟩ rfl (rest := []) rfl (Nat.le_of_ble_eq_true rfl) dX2_admitsIn_73 (fun H locs hP hS => ?_)
            refine b_eq (tgt := 83) C dX2_admitsIn_76 (by decide) h (fun h => ?_) (fun h => ?_)
            · refine lv_iconst (v := 0) C.1 C.2.1 dX2_admitsIn_83 (by decide) ?_
              have e := Option.some.inj h
              exact q_z C hlk hP hS hr (by decide) (by rw [← e]) rfl dX2_admitsIn_84
            · exact J79  _ _ _ hP hS (lv_sub hl [0, 1, 2] rfl) h
  unfold fX2_admitsIn at h
  refine lv_aload_n C.1 C.2.1 dX2_admitsIn_0 rfl (lv_at hl 0 rfl) ?_
  refine r_tF C hK hP hT cl_2 (k := 0) (by decide) wd_237 rfl dX2_admitsIn_1 h (fun b5 h => ?_)
  refine r_gFN C hK hP cl_3 (k := 0) (by decide) (hX.nw wd_210) rfl dX2_admitsIn_4 h (fun b6 h => ?_)
  refine lv_astore_n (lv' := [(3, .ref b6), (0, .ref a0), (1, .int a1), (2, .int a2)]) C.1 C.2.1 dX2_admitsIn_7 rfl hl (by decide) rfl (fun ls hl => ?_)
  refine lv_aload_n C.1 C.2.1 dX2_admitsIn_8 rfl (lv_at hl 0 rfl) ?_
  refine lv_iload_n C.1 C.2.1 dX2_admitsIn_9 rfl (lv_at hl 2 rfl) ?_
  obtain ⟨hs, h⟩ := chk_some h
  obtain ⟨r7, hc, h⟩ := bS h
  refine r_V1 C hK hX hb hP hS hl.1 (kX4_roleOf (hs) hc) hs cl_4 wd_371 mo_X4_roleOf wd_359 wd_360 ⟨Nat.le_of_ble_eq_true rfl, Nat.le_of_ble_eq_true rfl⟩ ⟨Nat.le_of_ble_eq_true rfl, Nat.le_of_ble_eq_true rfl⟩ rfl (rest := []) rfl (Nat.le_of_ble_eq_true rfl) dX2_admitsIn_10 (fun H locs hP hS => ?_)
  refine lv_istore (lv' := [(4, .int r7), (3, .ref b6), (0, .ref a0), (1, .int a1), (2, .int a2)]) C.1 C.2.1 dX2_admitsIn_13 hl (by decide) rfl (fun ls hl => ?_)
  refine lv_iload C.1 C.2.1 dX2_admitsIn_15 (lv_at hl 0 rfl) ?_
  refine lv_iconst (v := 2) C.1 C.2.1 dX2_admitsIn_17 (by decide) ?_
  refine b_ieq (tgt := 35) C dX2_admitsIn_18 (by decide) h (fun h => ?_) (fun h => ?_)
  · exact J35 (b6) _ _ _ hP hS (lv_sub hl [2, 3, 4, 1] rfl) h
  · refine lv_iload C.1 C.2.1 dX2_admitsIn_21 (lv_at hl 0 rfl) ?_
    refine lv_iconst (v := 3) C.1 C.2.1 dX2_admitsIn_23 (by decide) ?_
    refine b_ieq (tgt := 35) C dX2_admitsIn_24 (by decide) h (fun h => ?_) (fun h => ?_)
    · exact J35 (b6) _ _ _ hP hS (lv_sub hl [2, 3, 4, 1] rfl) h
    · refine lv_iload C.1 C.2.1 dX2_admitsIn_27 (lv_at hl 0 rfl) ?_
      refine lv_iconst (v := 5) C.1 C.2.1 dX2_admitsIn_29 (by decide) ?_
      refine b_ieq (tgt := 35) C dX2_admitsIn_30 (by decide) h (fun h => ?_) (fun h => ?_)
      · exact J35 (b6) _ _ _ hP hS (lv_sub hl [2, 3, 4, 1] rfl) h
      · refine lv_iconst (v := 0) C.1 C.2.1 dX2_admitsIn_33 (by decide) ?_
        have e := Option.some.inj h
        exact q_z C hlk hP hS hr (by decide) (by rw [← e]) rfl dX2_admitsIn_34
theorem dX2_admits_0 : decode cX2_admits 0 = .ok (.aload_n 0, 1) := by decide +kernel
theorem dX2_admits_1 : decode cX2_admits 1 = .ok (.iload_n 1, 1) := by decide +kernel
theorem dX2_admits_2 : decode cX2_admits 2 = .ok (.aload_n 0, 1) := by decide +kernel
theorem dX2_admits_3 : decode cX2_admits 3 = .ok (.getfield 22, 3) := by decide +kernel
theorem dX2_admits_6 : decode cX2_admits 6 = .ok (.getfield 26, 3) := by decide +kernel
theorem dX2_admits_9 : decode cX2_admits 9 = .ok (.invokevirtual 32, 3) := by decide +kernel
theorem dX2_admits_12 : decode cX2_admits 12 = .ok (.invokevirtual 38, 3) := by decide +kernel
theorem dX2_admits_15 : decode cX2_admits 15 = .ok (.ireturn, 1) := by decide +kernel
abbrev rmX2_admits : Room := { frames := 5, cells := 0, slots := 0, locals := 130 }
noncomputable def fX2_admits (n : Nat) (Sh : Sp) (M : Mm) (a0 : Nat) (a1 : Int32) : Option Int32 :=
  tF M a0 0 fun b1 =>
  gF Sh M b1 3 0 fun b2 =>
  chk (Sh b2 = some (.inl 4)) <|
  (fX4_topDialog n Sh M b2).bind fun r3 =>
  (fX2_admitsIn n Sh M a0 a1 r3).bind fun r4 =>
  chk (r4 = 0 ∨ r4 = 1) (some r4)
set_option maxRecDepth 100000 in
set_option maxHeartbeats 4000000 in
theorem kX2_admits {l : Launch} {G : Gt} {n : Nat} {Sh : Sp} {M : Mm} {a0 : Nat} {a1 : Int32} (hT : Sh a0 = some (.inl 2)) {r : Int32} (h : fX2_admits n Sh M a0 a1 = some r) : Ct l yX2_admits cX2_admits 2 (some .boolean) rmX2_admits G Sh M [.ref a0, .int a1] (some (.int r)) M := by
  refine Ct.of (by decide) (Nat.le_of_ble_eq_true rfl) ?_
  intro p e s m args below meth c ls C hK hX hP hS hb hlk hr hl
  replace hl : lv_has ls 2 [(0, .ref a0), (1, .int a1)] := hl
  unfold fX2_admits at h
  refine lv_aload_n C.1 C.2.1 dX2_admits_0 rfl (lv_at hl 0 rfl) ?_
  refine lv_iload_n C.1 C.2.1 dX2_admits_1 rfl (lv_at hl 1 rfl) ?_
  refine lv_aload_n C.1 C.2.1 dX2_admits_2 rfl (lv_at hl 0 rfl) ?_
  refine r_tF C hK hP hT cl_2 (k := 0) (by decide) wd_237 rfl dX2_admits_3 h (fun b1 h => ?_)
  refine r_gFN C hK hP cl_3 (k := 0) (by decide) (hX.nw wd_210) rfl dX2_admits_6 h (fun b2 h => ?_)
  obtain ⟨hs, h⟩ := chk_some h
  obtain ⟨r3, hc, h⟩ := bS h
  refine r_V1 C hK hX hb hP hS hl.1 (kX4_topDialog (hs) hc) hs cl_4 wd_338 mo_X4_topDialog wd_339 wd_340 ⟨Nat.le_of_ble_eq_true rfl, Nat.le_of_ble_eq_true rfl⟩ ⟨Nat.le_of_ble_eq_true rfl, Nat.le_of_ble_eq_true rfl⟩ rfl (rest := [.int a1, .ref a0]) rfl (Nat.le_of_ble_eq_true rfl) dX2_admits_9 (fun H locs hP hS => ?_)
  obtain ⟨r4, hc, h⟩ := bS h
  refine r_V1 C hK hX hb hP hS hl.1 (kX2_admitsIn (hT) hc) hT cl_2 wd_367 mo_X2_admitsIn wd_369 wd_2 ⟨Nat.le_of_ble_eq_true rfl, Nat.le_of_ble_eq_true rfl⟩ ⟨Nat.le_of_ble_eq_true rfl, Nat.le_of_ble_eq_true rfl⟩ rfl (rest := []) rfl (Nat.le_of_ble_eq_true rfl) dX2_admits_12 (fun H locs hP hS => ?_)
  obtain ⟨hzz, h⟩ := chk_some h
  have e := Option.some.inj h
  exact q_z C hlk hP hS hr hzz (by rw [← e]) rfl dX2_admits_15
theorem dX2_focusNow_0 : decode cX2_focusNow 0 = .ok (.aload_n 0, 1) := by decide +kernel
theorem dX2_focusNow_1 : decode cX2_focusNow 1 = .ok (.aload_n 0, 1) := by decide +kernel
theorem dX2_focusNow_2 : decode cX2_focusNow 2 = .ok (.getfield 22, 3) := by decide +kernel
theorem dX2_focusNow_5 : decode cX2_focusNow 5 = .ok (.getfield 42, 3) := by decide +kernel
theorem dX2_focusNow_8 : decode cX2_focusNow 8 = .ok (.invokevirtual 45, 3) := by decide +kernel
theorem dX2_focusNow_11 : decode cX2_focusNow 11 = .ok (.ifCond .eq 13, 3) := by decide +kernel
theorem dX2_focusNow_14 : decode cX2_focusNow 14 = .ok (.aload_n 0, 1) := by decide +kernel
theorem dX2_focusNow_15 : decode cX2_focusNow 15 = .ok (.getfield 22, 3) := by decide +kernel
theorem dX2_focusNow_18 : decode cX2_focusNow 18 = .ok (.getfield 42, 3) := by decide +kernel
theorem dX2_focusNow_21 : decode cX2_focusNow 21 = .ok (.goto 4, 3) := by decide +kernel
theorem dX2_focusNow_24 : decode cX2_focusNow 24 = .ok (.iconst (-1), 1) := by decide +kernel
theorem dX2_focusNow_25 : decode cX2_focusNow 25 = .ok (.ireturn, 1) := by decide +kernel
abbrev rmX2_focusNow : Room := { frames := 6, cells := 0, slots := 0, locals := 151 }
noncomputable def fX2_focusNow (n : Nat) (Sh : Sp) (M : Mm) (a0 : Nat) : Option Int32 :=
  tF M a0 0 fun b1 =>
  gI Sh M b1 3 3 fun x2 =>
  (fX2_admits n Sh M a0 x2).bind fun r3 =>
  if r3 = 0 then
    some (-1)
  else
    tF M a0 0 fun b4 =>
    gI Sh M b4 3 3 fun x5 =>
    some x5
set_option maxRecDepth 100000 in
set_option maxHeartbeats 4000000 in
theorem kX2_focusNow {l : Launch} {G : Gt} {n : Nat} {Sh : Sp} {M : Mm} {a0 : Nat} (hT : Sh a0 = some (.inl 2)) {r : Int32} (h : fX2_focusNow n Sh M a0 = some r) : Ct l yX2_focusNow cX2_focusNow 1 (some .int) rmX2_focusNow G Sh M [.ref a0] (some (.int r)) M := by
  refine Ct.of (by decide) (Nat.le_of_ble_eq_true rfl) ?_
  intro p e s m args below meth c ls C hK hX hP hS hb hlk hr hl
  replace hl : lv_has ls 1 [(0, .ref a0)] := hl
  unfold fX2_focusNow at h
  refine lv_aload_n C.1 C.2.1 dX2_focusNow_0 rfl (lv_at hl 0 rfl) ?_
  refine lv_aload_n C.1 C.2.1 dX2_focusNow_1 rfl (lv_at hl 0 rfl) ?_
  refine r_tF C hK hP hT cl_2 (k := 0) (by decide) wd_237 rfl dX2_focusNow_2 h (fun b1 h => ?_)
  refine r_gIN C hK hP cl_3 (k := 3) (by decide) (hX.nw wd_216) rfl dX2_focusNow_5 h (fun x2 h => ?_)
  obtain ⟨r3, hc, h⟩ := bS h
  refine r_V1 C hK hX hb hP hS hl.1 (kX2_admits (hT) hc) hT cl_2 wd_386 mo_X2_admits wd_387 wd_388 ⟨Nat.le_of_ble_eq_true rfl, Nat.le_of_ble_eq_true rfl⟩ ⟨Nat.le_of_ble_eq_true rfl, Nat.le_of_ble_eq_true rfl⟩ rfl (rest := []) rfl (Nat.le_of_ble_eq_true rfl) dX2_focusNow_8 (fun H locs hP hS => ?_)
  refine b_eq (tgt := 24) C dX2_focusNow_11 (by decide) h (fun h => ?_) (fun h => ?_)
  · refine lv_iconst (v := (-1)) C.1 C.2.1 dX2_focusNow_24 (by decide) ?_
    have e := Option.some.inj h
    exact q_i C hlk hP hS hr (by rw [← e]) rfl dX2_focusNow_25
  · refine lv_aload_n C.1 C.2.1 dX2_focusNow_14 rfl (lv_at hl 0 rfl) ?_
    refine r_tF C hK hP hT cl_2 (k := 0) (by decide) wd_237 rfl dX2_focusNow_15 h (fun b4 h => ?_)
    refine r_gIN C hK hP cl_3 (k := 3) (by decide) (hX.nw wd_216) rfl dX2_focusNow_18 h (fun x5 h => ?_)
    refine lv_goto (tgt := 25) C.1 C.2.1 dX2_focusNow_21 (by decide) ?_
    have e := Option.some.inj h
    exact q_i C hlk hP hS hr (by rw [← e]) rfl dX2_focusNow_25
theorem dX2_addAll_0 : decode cX2_addAll 0 = .ok (.iconst 0, 1) := by decide +kernel
theorem dX2_addAll_1 : decode cX2_addAll 1 = .ok (.istore 4, 2) := by decide +kernel
theorem dX2_addAll_3 : decode cX2_addAll 3 = .ok (.iload 4, 2) := by decide +kernel
theorem dX2_addAll_5 : decode cX2_addAll 5 = .ok (.iload_n 2, 1) := by decide +kernel
theorem dX2_addAll_6 : decode cX2_addAll 6 = .ok (.if_icmp .ge 82, 3) := by decide +kernel
theorem dX2_addAll_9 : decode cX2_addAll 9 = .ok (.iload 4, 2) := by decide +kernel
theorem dX2_addAll_11 : decode cX2_addAll 11 = .ok (.bipush 24, 2) := by decide +kernel
theorem dX2_addAll_13 : decode cX2_addAll 13 = .ok (.if_icmp .ge 75, 3) := by decide +kernel
theorem dX2_addAll_16 : decode cX2_addAll 16 = .ok (.aload_n 0, 1) := by decide +kernel
theorem dX2_addAll_17 : decode cX2_addAll 17 = .ok (.getfield 9, 3) := by decide +kernel
theorem dX2_addAll_20 : decode cX2_addAll 20 = .ok (.iload 4, 2) := by decide +kernel
theorem dX2_addAll_22 : decode cX2_addAll 22 = .ok (.iaload, 1) := by decide +kernel
theorem dX2_addAll_23 : decode cX2_addAll 23 = .ok (.istore 5, 2) := by decide +kernel
theorem dX2_addAll_25 : decode cX2_addAll 25 = .ok (.aload_n 0, 1) := by decide +kernel
theorem dX2_addAll_26 : decode cX2_addAll 26 = .ok (.getfield 22, 3) := by decide +kernel
theorem dX2_addAll_29 : decode cX2_addAll 29 = .ok (.getfield 26, 3) := by decide +kernel
theorem dX2_addAll_32 : decode cX2_addAll 32 = .ok (.iload 5, 2) := by decide +kernel
theorem dX2_addAll_34 : decode cX2_addAll 34 = .ok (.iconst 2, 1) := by decide +kernel
theorem dX2_addAll_35 : decode cX2_addAll 35 = .ok (.invokevirtual 64, 3) := by decide +kernel
theorem dX2_addAll_38 : decode cX2_addAll 38 = .ok (.iload_n 1, 1) := by decide +kernel
theorem dX2_addAll_39 : decode cX2_addAll 39 = .ok (.if_icmp .ne 43, 3) := by decide +kernel
theorem dX2_addAll_42 : decode cX2_addAll 42 = .ok (.aload_n 0, 1) := by decide +kernel
theorem dX2_addAll_43 : decode cX2_addAll 43 = .ok (.iload 5, 2) := by decide +kernel
theorem dX2_addAll_45 : decode cX2_addAll 45 = .ok (.iload_n 3, 1) := by decide +kernel
theorem dX2_addAll_46 : decode cX2_addAll 46 = .ok (.invokevirtual 38, 3) := by decide +kernel
theorem dX2_addAll_49 : decode cX2_addAll 49 = .ok (.ifCond .eq 33, 3) := by decide +kernel
theorem dX2_addAll_52 : decode cX2_addAll 52 = .ok (.aload_n 0, 1) := by decide +kernel
theorem dX2_addAll_53 : decode cX2_addAll 53 = .ok (.getfield 18, 3) := by decide +kernel
theorem dX2_addAll_56 : decode cX2_addAll 56 = .ok (.bipush 24, 2) := by decide +kernel
theorem dX2_addAll_58 : decode cX2_addAll 58 = .ok (.if_icmp .ge 24, 3) := by decide +kernel
theorem dX2_addAll_61 : decode cX2_addAll 61 = .ok (.aload_n 0, 1) := by decide +kernel
theorem dX2_addAll_62 : decode cX2_addAll 62 = .ok (.getfield 15, 3) := by decide +kernel
theorem dX2_addAll_65 : decode cX2_addAll 65 = .ok (.aload_n 0, 1) := by decide +kernel
theorem dX2_addAll_66 : decode cX2_addAll 66 = .ok (.getfield 18, 3) := by decide +kernel
theorem dX2_addAll_69 : decode cX2_addAll 69 = .ok (.iload 5, 2) := by decide +kernel
theorem dX2_addAll_71 : decode cX2_addAll 71 = .ok (.iastore, 1) := by decide +kernel
theorem dX2_addAll_72 : decode cX2_addAll 72 = .ok (.aload_n 0, 1) := by decide +kernel
theorem dX2_addAll_73 : decode cX2_addAll 73 = .ok (.dup, 1) := by decide +kernel
theorem dX2_addAll_74 : decode cX2_addAll 74 = .ok (.getfield 18, 3) := by decide +kernel
theorem dX2_addAll_77 : decode cX2_addAll 77 = .ok (.iconst 1, 1) := by decide +kernel
theorem dX2_addAll_78 : decode cX2_addAll 78 = .ok (.iadd, 1) := by decide +kernel
theorem dX2_addAll_79 : decode cX2_addAll 79 = .ok (.putfield 18, 3) := by decide +kernel
theorem dX2_addAll_82 : decode cX2_addAll 82 = .ok (.iinc 4 1, 3) := by decide +kernel
theorem dX2_addAll_85 : decode cX2_addAll 85 = .ok (.goto (-82), 3) := by decide +kernel
theorem dX2_addAll_88 : decode cX2_addAll 88 = .ok (.return_, 1) := by decide +kernel
abbrev rmX2_addAll : Room := { frames := 5, cells := 0, slots := 0, locals := 130 }
noncomputable def fX2_addAll_82 (n : Nat) (Sh : Sp) (a0 : Nat) (a1 : Int32) (a2 : Int32) (a3 : Int32) (M : Mm) (v4 : Int32) : Option ((Int32 × Mm) ⊕ Mm) :=
  some (Sum.inl ((v4 + 1), M))
noncomputable def fX2_addAll_3b (n : Nat) (Sh : Sp) (a0 : Nat) (a1 : Int32) (a2 : Int32) (a3 : Int32) (M : Mm) (v4 : Int32) : Option ((Int32 × Mm) ⊕ Mm) :=
  if v4 < a2 then
    if v4 < 24 then
      tF M a0 1 fun b1 =>
      aI Sh M b1 0 v4 fun x2 =>
      tF M a0 0 fun b3 =>
      gF Sh M b3 3 0 fun b4 =>
      chk (Sh b4 = some (.inl 4)) <|
      (fX4_setting n Sh M b4 x2 2).bind fun r5 =>
      if r5 = a1 then
        (fX2_admitsIn n Sh M a0 x2 a3).bind fun r6 =>
        if r6 = 0 then
          fX2_addAll_82 n Sh a0 a1 a2 a3 M v4
        else
          tI M a0 3 fun x7 =>
          if x7 < 24 then
            tF M a0 2 fun b8 =>
            tI M a0 3 fun x9 =>
            sI Sh M b8 x9 x2 fun M10 =>
            tI M10 a0 3 fun x11 =>
            qI M10 a0 3 (x11 + 1) fun M12 =>
            fX2_addAll_82 n Sh a0 a1 a2 a3 M12 v4
          else
            fX2_addAll_82 n Sh a0 a1 a2 a3 M v4
      else
        fX2_addAll_82 n Sh a0 a1 a2 a3 M v4
    else
      some (Sum.inr M)
  else
    some (Sum.inr M)
noncomputable def fX2_addAll_3 (n : Nat) (Sh : Sp) (a0 : Nat) (a1 : Int32) (a2 : Int32) (a3 : Int32) (M : Mm) (v4 : Int32) : Option Mm :=
  iter n (fun s => fX2_addAll_3b n Sh a0 a1 a2 a3 s.2 s.1) (v4, M)
noncomputable def fX2_addAll (n : Nat) (Sh : Sp) (M : Mm) (a0 : Nat) (a1 : Int32) (a2 : Int32) (a3 : Int32) : Option Mm :=
  fX2_addAll_3 n Sh a0 a1 a2 a3 M 0
set_option maxRecDepth 100000 in
set_option maxHeartbeats 4000000 in
theorem kX2_addAll {l : Launch} {G : Gt} {n : Nat} {Sh : Sp} {M : Mm} {a0 : Nat} {a1 : Int32} {a2 : Int32} {a3 : Int32} (hT : Sh a0 = some (.inl 2)) {r : Mm} (h : fX2_addAll n Sh M a0 a1 a2 a3 = some r) : Ct l yX2_addAll cX2_addAll 6 none rmX2_addAll G Sh M [.ref a0, .int a1, .int a2, .int a3] none r := by
  refine Ct.of (by decide) (Nat.le_of_ble_eq_true rfl) ?_
  intro p e s m args below meth c ls C hK hX hP hS hb hlk hr hl
  replace hl : lv_has ls 6 [(0, .ref a0), (1, .int a1), (2, .int a2), (3, .int a3)] := hl
  have J3 : ∀ (k : Nat) (v4 : Int32) (M : Mm) (H : Heap) (locs : List Loc) (ls : Array Slot), HM G Sh M H → SS G s s.heap.size H locs → lv_has ls 6 [(0, .ref a0), (1, .int a1), (2, .int a2), (3, .int a3), (4, .int v4)] → iter k (fun s => fX2_addAll_3b n Sh a0 a1 a2 a3 s.2 s.1) (v4, M) = some r → W p l e rmX2_addAll s m args below meth c H locs 0 0 (MQ below (QG G Sh r none) args s rmX2_addAll.cells rmX2_addAll.slots (AA G)) (F0 m 3 ls []) := by
    intro k
    induction k with
    | zero => intro v4 M H locs ls hP hS hl h; exact (iter_0 h).elim
    | succ k ih1 =>
      intro v4 M H locs ls hP hS hl h
      obtain ⟨z1, h, hz1⟩ := iter_some h
      replace h : fX2_addAll_3b n Sh a0 a1 a2 a3 M v4 = some z1 := h
      have J82 : ∀ (M : Mm) (v4 : Int32) (H : Heap) (locs : List Loc) (ls : Array Slot), HM G Sh M H → SS G s s.heap.size H locs → lv_has ls 6 [(0, .ref a0), (1, .int a1), (2, .int a2), (3, .int a3), (4, .int v4)] → fX2_addAll_82 n Sh a0 a1 a2 a3 M v4 = some z1 → W p l e rmX2_addAll s m args below meth c H locs 0 0 (MQ below (QG G Sh r none) args s rmX2_addAll.cells rmX2_addAll.slots (AA G)) (F0 m 82 ls []) := by
        intro M v4 H locs ls hP hS hl h
        unfold fX2_addAll_82 at h
        refine lv_iinc (v := (v4 + 1)) (lv' := [(4, .int (v4 + 1)), (0, .ref a0), (1, .int a1), (2, .int a2), (3, .int a3)]) C.1 C.2.1 dX2_addAll_82 hl (k := 4) rfl rfl (by decide) rfl (fun ls hl => ?_)
        refine lv_goto (tgt := 3) C.1 C.2.1 dX2_addAll_85 (by decide) ?_
        have e := Option.some.inj h
        rw [← e] at hz1
        exact ih1 ((v4 + 1)) M _ _ _ hP hS (lv_sub hl [1, 2, 3, 4, 0] rfl) (itK_inl hz1)
      unfold fX2_addAll_3b at h
      refine lv_iload C.1 C.2.1 dX2_addAll_3 (lv_at hl 4 rfl) ?_
      refine lv_iload_n C.1 C.2.1 dX2_addAll_5 rfl (lv_at hl 2 rfl) ?_
      refine b_ige (tgt := 88) C dX2_addAll_6 (by decide) h (fun h => ?_) (fun h => ?_)
      · refine lv_iload C.1 C.2.1 dX2_addAll_9 (lv_at hl 4 rfl) ?_
        refine lv_bipush (v := 24) C.1 C.2.1 dX2_addAll_11 (by decide) ?_
        refine b_ige (tgt := 88) C dX2_addAll_13 (by decide) h (fun h => ?_) (fun h => ?_)
        · refine lv_aload_n C.1 C.2.1 dX2_addAll_16 rfl (lv_at hl 0 rfl) ?_
          refine r_tF C hK hP hT cl_2 (k := 1) (by decide) wd_238 rfl dX2_addAll_17 h (fun b1 h => ?_)
          refine lv_iload C.1 C.2.1 dX2_addAll_20 (lv_at hl 4 rfl) ?_
          refine r_aI C hK hP dX2_addAll_22 h (fun x2 h => ?_)
          refine lv_istore (lv' := [(5, .int x2), (0, .ref a0), (1, .int a1), (2, .int a2), (3, .int a3), (4, .int v4)]) C.1 C.2.1 dX2_addAll_23 hl (by decide) rfl (fun ls hl => ?_)
          refine lv_aload_n C.1 C.2.1 dX2_addAll_25 rfl (lv_at hl 1 rfl) ?_
          refine r_tF C hK hP hT cl_2 (k := 0) (by decide) wd_237 rfl dX2_addAll_26 h (fun b3 h => ?_)
          refine r_gFN C hK hP cl_3 (k := 0) (by decide) (hX.nw wd_210) rfl dX2_addAll_29 h (fun b4 h => ?_)
          refine lv_iload C.1 C.2.1 dX2_addAll_32 (lv_at hl 0 rfl) ?_
          refine lv_iconst (v := 2) C.1 C.2.1 dX2_addAll_34 (by decide) ?_
          obtain ⟨hs, h⟩ := chk_some h
          obtain ⟨r5, hc, h⟩ := bS h
          refine r_V1 C hK hX hb hP hS hl.1 (kX4_setting (hs) hc) hs cl_4 wd_366 mo_X4_setting wd_355 wd_356 ⟨Nat.le_of_ble_eq_true rfl, Nat.le_of_ble_eq_true rfl⟩ ⟨Nat.le_of_ble_eq_true rfl, Nat.le_of_ble_eq_true rfl⟩ rfl (rest := []) rfl (Nat.le_of_ble_eq_true rfl) dX2_addAll_35 (fun H locs hP hS => ?_)
          refine lv_iload_n C.1 C.2.1 dX2_addAll_38 rfl (lv_at hl 2 rfl) ?_
          refine b_ine (tgt := 82) C dX2_addAll_39 (by decide) h (fun h => ?_) (fun h => ?_)
          · refine lv_aload_n C.1 C.2.1 dX2_addAll_42 rfl (lv_at hl 1 rfl) ?_
            refine lv_iload C.1 C.2.1 dX2_addAll_43 (lv_at hl 0 rfl) ?_
            refine lv_iload_n C.1 C.2.1 dX2_addAll_45 rfl (lv_at hl 4 rfl) ?_
            obtain ⟨r6, hc, h⟩ := bS h
            refine r_V1 C hK hX hb hP hS hl.1 (kX2_admitsIn (hT) hc) hT cl_2 wd_367 mo_X2_admitsIn wd_369 wd_2 ⟨Nat.le_of_ble_eq_true rfl, Nat.le_of_ble_eq_true rfl⟩ ⟨Nat.le_of_ble_eq_true rfl, Nat.le_of_ble_eq_true rfl⟩ rfl (rest := []) rfl (Nat.le_of_ble_eq_true rfl) dX2_addAll_46 (fun H locs hP hS => ?_)
            refine b_eq (tgt := 82) C dX2_addAll_49 (by decide) h (fun h => ?_) (fun h => ?_)
            · exact J82 (M) (v4) _ _ _ hP hS (lv_sub hl [1, 2, 3, 4, 5] rfl) h
            · refine lv_aload_n C.1 C.2.1 dX2_addAll_52 rfl (lv_at hl 1 rfl) ?_
              refine r_tI C hK hP hT cl_2 (k := 3) (by decide) wd_240 rfl dX2_addAll_53 h (fun x7 h => ?_)
              refine lv_bipush (v := 24) C.1 C.2.1 dX2_addAll_56 (by decide) ?_
              refine b_ige (tgt := 82) C dX2_addAll_58 (by decide) h (fun h => ?_) (fun h => ?_)
              · refine lv_aload_n C.1 C.2.1 dX2_addAll_61 rfl (lv_at hl 1 rfl) ?_
                refine r_tF C hK hP hT cl_2 (k := 2) (by decide) wd_239 rfl dX2_addAll_62 h (fun b8 h => ?_)
                refine lv_aload_n C.1 C.2.1 dX2_addAll_65 rfl (lv_at hl 1 rfl) ?_
                refine r_tI C hK hP hT cl_2 (k := 3) (by decide) wd_240 rfl dX2_addAll_66 h (fun x9 h => ?_)
                refine lv_iload C.1 C.2.1 dX2_addAll_69 (lv_at hl 0 rfl) ?_
                refine r_sI C hK hP hS dX2_addAll_71 h (fun M10 H locs h hP hS => ?_)
                refine lv_aload_n C.1 C.2.1 dX2_addAll_72 rfl (lv_at hl 1 rfl) ?_
                refine lv_dup C.1 C.2.1 dX2_addAll_73 rfl ?_
                refine r_tI C hK hP hT cl_2 (k := 3) (by decide) wd_240 rfl dX2_addAll_74 h (fun x11 h => ?_)
                refine lv_iconst (v := 1) C.1 C.2.1 dX2_addAll_77 (by decide) ?_
                refine lv_iadd C.1 C.2.1 dX2_addAll_78 ?_
                refine r_qI C hK hP hS hT cl_2 (k := 3) (by decide) wd_240 rfl rfl (tyX2_ok 3 (by decide)) dX2_addAll_79 h (fun M12 H locs h hP hS => ?_)
                exact J82 (M12) (v4) _ _ _ hP hS (lv_sub hl [1, 2, 3, 4, 5] rfl) h
              · exact J82 (M) (v4) _ _ _ hP hS (lv_sub hl [1, 2, 3, 4, 5] rfl) h
          · exact J82 (M) (v4) _ _ _ hP hS (lv_sub hl [1, 2, 3, 4, 5] rfl) h
        · have e := Option.some.inj h
          rw [← e] at hz1
          replace e := itK_inr hz1
          exact q_v C hlk hP hS hr rfl e.symm dX2_addAll_88
      · have e := Option.some.inj h
        rw [← e] at hz1
        replace e := itK_inr hz1
        exact q_v C hlk hP hS hr rfl e.symm dX2_addAll_88
  unfold fX2_addAll at h
  refine lv_iconst (v := 0) C.1 C.2.1 dX2_addAll_0 (by decide) ?_
  refine lv_istore (lv' := [(4, .int 0), (0, .ref a0), (1, .int a1), (2, .int a2), (3, .int a3)]) C.1 C.2.1 dX2_addAll_1 hl (by decide) rfl (fun ls hl => ?_)
  exact J3  n (0) M _ _ _ hP hS (lv_sub hl [1, 2, 3, 4, 0] rfl) h
theorem dX2_fill_0 : decode cX2_fill 0 = .ok (.aload_n 0, 1) := by decide +kernel
theorem dX2_fill_1 : decode cX2_fill 1 = .ok (.getfield 22, 3) := by decide +kernel
theorem dX2_fill_4 : decode cX2_fill 4 = .ok (.getfield 26, 3) := by decide +kernel
theorem dX2_fill_7 : decode cX2_fill 7 = .ok (.aload_n 0, 1) := by decide +kernel
theorem dX2_fill_8 : decode cX2_fill 8 = .ok (.getfield 9, 3) := by decide +kernel
theorem dX2_fill_11 : decode cX2_fill 11 = .ok (.invokevirtual 49, 3) := by decide +kernel
theorem dX2_fill_14 : decode cX2_fill 14 = .ok (.istore_n 1, 1) := by decide +kernel
theorem dX2_fill_15 : decode cX2_fill 15 = .ok (.aload_n 0, 1) := by decide +kernel
theorem dX2_fill_16 : decode cX2_fill 16 = .ok (.getfield 22, 3) := by decide +kernel
theorem dX2_fill_19 : decode cX2_fill 19 = .ok (.getfield 26, 3) := by decide +kernel
theorem dX2_fill_22 : decode cX2_fill 22 = .ok (.invokevirtual 32, 3) := by decide +kernel
theorem dX2_fill_25 : decode cX2_fill 25 = .ok (.istore_n 2, 1) := by decide +kernel
theorem dX2_fill_26 : decode cX2_fill 26 = .ok (.aload_n 0, 1) := by decide +kernel
theorem dX2_fill_27 : decode cX2_fill 27 = .ok (.iconst 0, 1) := by decide +kernel
theorem dX2_fill_28 : decode cX2_fill 28 = .ok (.putfield 18, 3) := by decide +kernel
theorem dX2_fill_31 : decode cX2_fill 31 = .ok (.iconst 1, 1) := by decide +kernel
theorem dX2_fill_32 : decode cX2_fill 32 = .ok (.istore_n 3, 1) := by decide +kernel
theorem dX2_fill_33 : decode cX2_fill 33 = .ok (.iload_n 3, 1) := by decide +kernel
theorem dX2_fill_34 : decode cX2_fill 34 = .ok (.bipush 9, 2) := by decide +kernel
theorem dX2_fill_36 : decode cX2_fill 36 = .ok (.if_icmp .gt 16, 3) := by decide +kernel
theorem dX2_fill_39 : decode cX2_fill 39 = .ok (.aload_n 0, 1) := by decide +kernel
theorem dX2_fill_40 : decode cX2_fill 40 = .ok (.iload_n 3, 1) := by decide +kernel
theorem dX2_fill_41 : decode cX2_fill 41 = .ok (.iload_n 1, 1) := by decide +kernel
theorem dX2_fill_42 : decode cX2_fill 42 = .ok (.iload_n 2, 1) := by decide +kernel
theorem dX2_fill_43 : decode cX2_fill 43 = .ok (.invokevirtual 53, 3) := by decide +kernel
theorem dX2_fill_46 : decode cX2_fill 46 = .ok (.iinc 3 1, 3) := by decide +kernel
theorem dX2_fill_49 : decode cX2_fill 49 = .ok (.goto (-16), 3) := by decide +kernel
theorem dX2_fill_52 : decode cX2_fill 52 = .ok (.aload_n 0, 1) := by decide +kernel
theorem dX2_fill_53 : decode cX2_fill 53 = .ok (.iconst 0, 1) := by decide +kernel
theorem dX2_fill_54 : decode cX2_fill 54 = .ok (.iload_n 1, 1) := by decide +kernel
theorem dX2_fill_55 : decode cX2_fill 55 = .ok (.iload_n 2, 1) := by decide +kernel
theorem dX2_fill_56 : decode cX2_fill 56 = .ok (.invokevirtual 53, 3) := by decide +kernel
theorem dX2_fill_59 : decode cX2_fill 59 = .ok (.return_, 1) := by decide +kernel
abbrev rmX2_fill : Room := { frames := 33, cells := 0, slots := 0, locals := 849 }
noncomputable def fX2_fill_52 (n : Nat) (Sh : Sp) (a0 : Nat) (M : Mm) (v1 : Int32) (v2 : Int32) : Option Mm :=
  (fX2_addAll n Sh M a0 0 v1 v2).bind fun r1 =>
  some r1
noncomputable def fX2_fill_33b (n : Nat) (Sh : Sp) (a0 : Nat) (M : Mm) (v1 : Int32) (v2 : Int32) (v3 : Int32) : Option ((Int32 × Mm) ⊕ Mm) :=
  if v3 ≤ 9 then
    (fX2_addAll n Sh M a0 v3 v1 v2).bind fun r2 =>
    some (Sum.inl ((v3 + 1), r2))
  else
    (fX2_fill_52 n Sh a0 M v1 v2).map Sum.inr
noncomputable def fX2_fill_33 (n : Nat) (Sh : Sp) (a0 : Nat) (M : Mm) (v1 : Int32) (v2 : Int32) (v3 : Int32) : Option Mm :=
  iter n (fun s => fX2_fill_33b n Sh a0 s.2 v1 v2 s.1) (v3, M)
noncomputable def fX2_fill (n : Nat) (Sh : Sp) (M : Mm) (a0 : Nat) : Option Mm :=
  tF M a0 0 fun b3 =>
  gF Sh M b3 3 0 fun b4 =>
  tF M a0 1 fun b5 =>
  chk (Sh b4 = some (.inl 4)) <|
  (fX4_writeOrder n Sh M b4 b5).bind fun r6 =>
  tF r6.2 a0 0 fun b7 =>
  gF Sh r6.2 b7 3 0 fun b8 =>
  chk (Sh b8 = some (.inl 4)) <|
  (fX4_topDialog n Sh r6.2 b8).bind fun r9 =>
  qI r6.2 a0 3 0 fun M10 =>
  fX2_fill_33 n Sh a0 M10 r6.1 r9 1
set_option maxRecDepth 100000 in
set_option maxHeartbeats 4000000 in
theorem kX2_fill {l : Launch} {G : Gt} {n : Nat} {Sh : Sp} {M : Mm} {a0 : Nat} (hT : Sh a0 = some (.inl 2)) {r : Mm} (h : fX2_fill n Sh M a0 = some r) : Ct l yX2_fill cX2_fill 4 none rmX2_fill G Sh M [.ref a0] none r := by
  refine Ct.of (by decide) (Nat.le_of_ble_eq_true rfl) ?_
  intro p e s m args below meth c ls C hK hX hP hS hb hlk hr hl
  replace hl : lv_has ls 4 [(0, .ref a0)] := hl
  have J52 : ∀ (M : Mm) (v1 : Int32) (v2 : Int32) (H : Heap) (locs : List Loc) (ls : Array Slot), HM G Sh M H → SS G s s.heap.size H locs → lv_has ls 4 [(0, .ref a0), (1, .int v1), (2, .int v2)] → fX2_fill_52 n Sh a0 M v1 v2 = some r → W p l e rmX2_fill s m args below meth c H locs 0 0 (MQ below (QG G Sh r none) args s rmX2_fill.cells rmX2_fill.slots (AA G)) (F0 m 52 ls []) := by
    intro M v1 v2 H locs ls hP hS hl h
    unfold fX2_fill_52 at h
    refine lv_aload_n C.1 C.2.1 dX2_fill_52 rfl (lv_at hl 0 rfl) ?_
    refine lv_iconst (v := 0) C.1 C.2.1 dX2_fill_53 (by decide) ?_
    refine lv_iload_n C.1 C.2.1 dX2_fill_54 rfl (lv_at hl 1 rfl) ?_
    refine lv_iload_n C.1 C.2.1 dX2_fill_55 rfl (lv_at hl 2 rfl) ?_
    obtain ⟨r1, hc, h⟩ := bS h
    refine r_V0 C hK hX hb hP hS hl.1 (kX2_addAll (hT) hc) hT cl_2 wd_362 mo_X2_addAll wd_364 wd_1 ⟨Nat.le_of_ble_eq_true rfl, Nat.le_of_ble_eq_true rfl⟩ ⟨Nat.le_of_ble_eq_true rfl, Nat.le_of_ble_eq_true rfl⟩ rfl (rest := []) rfl (Nat.le_of_ble_eq_true rfl) dX2_fill_56 (fun H locs hP hS => ?_)
    have e := Option.some.inj h
    exact q_v C hlk hP hS hr rfl e.symm dX2_fill_59
  have J33 : ∀ (v1 : Int32) (v2 : Int32), ∀ (k : Nat) (v3 : Int32) (M : Mm) (H : Heap) (locs : List Loc) (ls : Array Slot), HM G Sh M H → SS G s s.heap.size H locs → lv_has ls 4 [(0, .ref a0), (1, .int v1), (2, .int v2), (3, .int v3)] → iter k (fun s => fX2_fill_33b n Sh a0 s.2 v1 v2 s.1) (v3, M) = some r → W p l e rmX2_fill s m args below meth c H locs 0 0 (MQ below (QG G Sh r none) args s rmX2_fill.cells rmX2_fill.slots (AA G)) (F0 m 33 ls []) := by
    intro v1 v2 k
    induction k with
    | zero => intro v3 M H locs ls hP hS hl h; exact (iter_0 h).elim
    | succ k ih1 =>
      intro v3 M H locs ls hP hS hl h
      obtain ⟨z1, h, hz1⟩ := iter_some h
      replace h : fX2_fill_33b n Sh a0 M v1 v2 v3 = some z1 := h
      unfold fX2_fill_33b at h
      refine lv_iload_n C.1 C.2.1 dX2_fill_33 rfl (lv_at hl 3 rfl) ?_
      refine lv_bipush (v := 9) C.1 C.2.1 dX2_fill_34 (by decide) ?_
      refine b_igt (tgt := 52) C dX2_fill_36 (by decide) h (fun h => ?_) (fun h => ?_)
      · refine lv_aload_n C.1 C.2.1 dX2_fill_39 rfl (lv_at hl 0 rfl) ?_
        refine lv_iload_n C.1 C.2.1 dX2_fill_40 rfl (lv_at hl 3 rfl) ?_
        refine lv_iload_n C.1 C.2.1 dX2_fill_41 rfl (lv_at hl 1 rfl) ?_
        refine lv_iload_n C.1 C.2.1 dX2_fill_42 rfl (lv_at hl 2 rfl) ?_
        obtain ⟨r2, hc, h⟩ := bS h
        refine r_V0 C hK hX hb hP hS hl.1 (kX2_addAll (hT) hc) hT cl_2 wd_362 mo_X2_addAll wd_364 wd_1 ⟨Nat.le_of_ble_eq_true rfl, Nat.le_of_ble_eq_true rfl⟩ ⟨Nat.le_of_ble_eq_true rfl, Nat.le_of_ble_eq_true rfl⟩ rfl (rest := []) rfl (Nat.le_of_ble_eq_true rfl) dX2_fill_43 (fun H locs hP hS => ?_)
        refine lv_iinc (v := (v3 + 1)) (lv' := [(3, .int (v3 + 1)), (0, .ref a0), (1, .int v1), (2, .int v2)]) C.1 C.2.1 dX2_fill_46 hl (k := 3) rfl rfl (by decide) rfl (fun ls hl => ?_)
        refine lv_goto (tgt := 33) C.1 C.2.1 dX2_fill_49 (by decide) ?_
        have e := Option.some.inj h
        rw [← e] at hz1
        exact ih1 ((v3 + 1)) r2 _ _ _ hP hS (lv_sub hl [1, 2, 3, 0] rfl) (itK_inl hz1)
      · obtain ⟨w1, h, e⟩ := mS h
        rw [← e] at hz1
        replace e := itK_inr hz1
        rw [e] at h
        exact J52 (M) (v1) (v2) _ _ _ hP hS (lv_sub hl [0, 1, 2] rfl) h
  unfold fX2_fill at h
  refine lv_aload_n C.1 C.2.1 dX2_fill_0 rfl (lv_at hl 0 rfl) ?_
  refine r_tF C hK hP hT cl_2 (k := 0) (by decide) wd_237 rfl dX2_fill_1 h (fun b3 h => ?_)
  refine r_gFN C hK hP cl_3 (k := 0) (by decide) (hX.nw wd_210) rfl dX2_fill_4 h (fun b4 h => ?_)
  refine lv_aload_n C.1 C.2.1 dX2_fill_7 rfl (lv_at hl 0 rfl) ?_
  refine r_tF C hK hP hT cl_2 (k := 1) (by decide) wd_238 rfl dX2_fill_8 h (fun b5 h => ?_)
  obtain ⟨hs, h⟩ := chk_some h
  obtain ⟨r6, hc, h⟩ := bS h
  refine r_V1 C hK hX hb hP hS hl.1 (kX4_writeOrder (hs) hc) hs cl_4 wd_337 mo_X4_writeOrder wd_314 wd_315 ⟨Nat.le_of_ble_eq_true rfl, Nat.le_of_ble_eq_true rfl⟩ ⟨Nat.le_of_ble_eq_true rfl, Nat.le_of_ble_eq_true rfl⟩ rfl (rest := []) rfl (Nat.le_of_ble_eq_true rfl) dX2_fill_11 (fun H locs hP hS => ?_)
  refine lv_istore_n (lv' := [(1, .int r6.1), (0, .ref a0)]) C.1 C.2.1 dX2_fill_14 rfl hl (by decide) rfl (fun ls hl => ?_)
  refine lv_aload_n C.1 C.2.1 dX2_fill_15 rfl (lv_at hl 1 rfl) ?_
  refine r_tF C hK hP hT cl_2 (k := 0) (by decide) wd_237 rfl dX2_fill_16 h (fun b7 h => ?_)
  refine r_gFN C hK hP cl_3 (k := 0) (by decide) (hX.nw wd_210) rfl dX2_fill_19 h (fun b8 h => ?_)
  obtain ⟨hs, h⟩ := chk_some h
  obtain ⟨r9, hc, h⟩ := bS h
  refine r_V1 C hK hX hb hP hS hl.1 (kX4_topDialog (hs) hc) hs cl_4 wd_338 mo_X4_topDialog wd_339 wd_340 ⟨Nat.le_of_ble_eq_true rfl, Nat.le_of_ble_eq_true rfl⟩ ⟨Nat.le_of_ble_eq_true rfl, Nat.le_of_ble_eq_true rfl⟩ rfl (rest := []) rfl (Nat.le_of_ble_eq_true rfl) dX2_fill_22 (fun H locs hP hS => ?_)
  refine lv_istore_n (lv' := [(2, .int r9), (1, .int r6.1), (0, .ref a0)]) C.1 C.2.1 dX2_fill_25 rfl hl (by decide) rfl (fun ls hl => ?_)
  refine lv_aload_n C.1 C.2.1 dX2_fill_26 rfl (lv_at hl 2 rfl) ?_
  refine lv_iconst (v := 0) C.1 C.2.1 dX2_fill_27 (by decide) ?_
  refine r_qI C hK hP hS hT cl_2 (k := 3) (by decide) wd_240 rfl rfl (tyX2_ok 3 (by decide)) dX2_fill_28 h (fun M10 H locs h hP hS => ?_)
  refine lv_iconst (v := 1) C.1 C.2.1 dX2_fill_31 (by decide) ?_
  refine lv_istore_n (lv' := [(3, .int 1), (2, .int r9), (1, .int r6.1), (0, .ref a0)]) C.1 C.2.1 dX2_fill_32 rfl hl (by decide) rfl (fun ls hl => ?_)
  exact J33 (r6.1) (r9) n (1) M10 _ _ _ hP hS (lv_sub hl [3, 2, 1, 0] rfl) h
