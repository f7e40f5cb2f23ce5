theorem dX7_extreme_0 : decode cX7_extreme 0 = .ok (.iconst 0, 1) := by decide +kernel
theorem dX7_extreme_1 : decode cX7_extreme 1 = .ok (.istore_n 2, 1) := by decide +kernel
theorem dX7_extreme_2 : decode cX7_extreme 2 = .ok (.iconst 1, 1) := by decide +kernel
theorem dX7_extreme_3 : decode cX7_extreme 3 = .ok (.istore_n 3, 1) := by decide +kernel
theorem dX7_extreme_4 : decode cX7_extreme 4 = .ok (.iload_n 3, 1) := by decide +kernel
theorem dX7_extreme_5 : decode cX7_extreme 5 = .ok (.aload_n 0, 1) := by decide +kernel
theorem dX7_extreme_6 : decode cX7_extreme 6 = .ok (.getfield 7, 3) := by decide +kernel
theorem dX7_extreme_9 : decode cX7_extreme 9 = .ok (.sipush 720, 3) := by decide +kernel
theorem dX7_extreme_12 : decode cX7_extreme 12 = .ok (.iaload, 1) := by decide +kernel
theorem dX7_extreme_13 : decode cX7_extreme 13 = .ok (.if_icmp .ge 61, 3) := by decide +kernel
theorem dX7_extreme_16 : decode cX7_extreme 16 = .ok (.aload_n 0, 1) := by decide +kernel
theorem dX7_extreme_17 : decode cX7_extreme 17 = .ok (.getfield 7, 3) := by decide +kernel
theorem dX7_extreme_20 : decode cX7_extreme 20 = .ok (.iload_n 3, 1) := by decide +kernel
theorem dX7_extreme_21 : decode cX7_extreme 21 = .ok (.invokestatic 100, 3) := by decide +kernel
theorem dX7_extreme_24 : decode cX7_extreme 24 = .ok (.iaload, 1) := by decide +kernel
theorem dX7_extreme_25 : decode cX7_extreme 25 = .ok (.istore 4, 2) := by decide +kernel
theorem dX7_extreme_27 : decode cX7_extreme 27 = .ok (.iload_n 1, 1) := by decide +kernel
theorem dX7_extreme_28 : decode cX7_extreme 28 = .ok (.ifCond .eq 20, 3) := by decide +kernel
theorem dX7_extreme_31 : decode cX7_extreme 31 = .ok (.iload 4, 2) := by decide +kernel
theorem dX7_extreme_33 : decode cX7_extreme 33 = .ok (.aload_n 0, 1) := by decide +kernel
theorem dX7_extreme_34 : decode cX7_extreme 34 = .ok (.getfield 7, 3) := by decide +kernel
theorem dX7_extreme_37 : decode cX7_extreme 37 = .ok (.iload_n 2, 1) := by decide +kernel
theorem dX7_extreme_38 : decode cX7_extreme 38 = .ok (.invokestatic 100, 3) := by decide +kernel
theorem dX7_extreme_41 : decode cX7_extreme 41 = .ok (.iaload, 1) := by decide +kernel
theorem dX7_extreme_42 : decode cX7_extreme 42 = .ok (.if_icmp .le 24, 3) := by decide +kernel
theorem dX7_extreme_45 : decode cX7_extreme 45 = .ok (.goto 17, 3) := by decide +kernel
theorem dX7_extreme_48 : decode cX7_extreme 48 = .ok (.iload 4, 2) := by decide +kernel
theorem dX7_extreme_50 : decode cX7_extreme 50 = .ok (.aload_n 0, 1) := by decide +kernel
theorem dX7_extreme_51 : decode cX7_extreme 51 = .ok (.getfield 7, 3) := by decide +kernel
theorem dX7_extreme_54 : decode cX7_extreme 54 = .ok (.iload_n 2, 1) := by decide +kernel
theorem dX7_extreme_55 : decode cX7_extreme 55 = .ok (.invokestatic 100, 3) := by decide +kernel
theorem dX7_extreme_58 : decode cX7_extreme 58 = .ok (.iaload, 1) := by decide +kernel
theorem dX7_extreme_59 : decode cX7_extreme 59 = .ok (.if_icmp .ge 7, 3) := by decide +kernel
theorem dX7_extreme_62 : decode cX7_extreme 62 = .ok (.iload_n 3, 1) := by decide +kernel
theorem dX7_extreme_63 : decode cX7_extreme 63 = .ok (.goto 4, 3) := by decide +kernel
theorem dX7_extreme_66 : decode cX7_extreme 66 = .ok (.iload_n 2, 1) := by decide +kernel
theorem dX7_extreme_67 : decode cX7_extreme 67 = .ok (.istore_n 2, 1) := by decide +kernel
theorem dX7_extreme_68 : decode cX7_extreme 68 = .ok (.iinc 3 1, 3) := by decide +kernel
theorem dX7_extreme_71 : decode cX7_extreme 71 = .ok (.goto (-67), 3) := by decide +kernel
theorem dX7_extreme_74 : decode cX7_extreme 74 = .ok (.iload_n 2, 1) := by decide +kernel
theorem dX7_extreme_75 : decode cX7_extreme 75 = .ok (.ireturn, 1) := by decide +kernel
abbrev rmX7_extreme : Room := { frames := 2, cells := 0, slots := 0, locals := 60 }
noncomputable def fX7_extreme_67 (n : Nat) (Sh : Sp) (M : Mm) (a0 : Nat) (a1 : Int32) (v3 : Int32) (t0 : Int32) : Option ((Int32 × Int32) ⊕ Int32) :=
  some (Sum.inl (t0, (v3 + 1)))
noncomputable def fX7_extreme_66 (n : Nat) (Sh : Sp) (M : Mm) (a0 : Nat) (a1 : Int32) (v2 : Int32) (v3 : Int32) : Option ((Int32 × Int32) ⊕ Int32) :=
  fX7_extreme_67 n Sh M a0 a1 v3 v2
noncomputable def fX7_extreme_62 (n : Nat) (Sh : Sp) (M : Mm) (a0 : Nat) (a1 : Int32) (v3 : Int32) : Option ((Int32 × Int32) ⊕ Int32) :=
  fX7_extreme_67 n Sh M a0 a1 v3 v3
noncomputable def fX7_extreme_4b (n : Nat) (Sh : Sp) (M : Mm) (a0 : Nat) (a1 : Int32) (v2 : Int32) (v3 : Int32) : Option ((Int32 × Int32) ⊕ Int32) :=
  tF M a0 0 fun b1 =>
  aI Sh M b1 0 720 fun x2 =>
  if v3 < x2 then
    tF M a0 0 fun b3 =>
    (fX7_startOf n Sh M v3).bind fun r4 =>
    aI Sh M b3 0 r4 fun x5 =>
    if a1 = 0 then
      tF M a0 0 fun b6 =>
      (fX7_startOf n Sh M v2).bind fun r7 =>
      aI Sh M b6 0 r7 fun x8 =>
      if x5 < x8 then
        fX7_extreme_62 n Sh M a0 a1 v3
      else
        fX7_extreme_66 n Sh M a0 a1 v2 v3
    else
      tF M a0 0 fun b9 =>
      (fX7_startOf n Sh M v2).bind fun r10 =>
      aI Sh M b9 0 r10 fun x11 =>
      if x5 ≤ x11 then
        fX7_extreme_66 n Sh M a0 a1 v2 v3
      else
        fX7_extreme_62 n Sh M a0 a1 v3
  else
    some (Sum.inr v2)
noncomputable def fX7_extreme_4 (n : Nat) (Sh : Sp) (M : Mm) (a0 : Nat) (a1 : Int32) (v2 : Int32) (v3 : Int32) : Option Int32 :=
  iter n (fun s => fX7_extreme_4b n Sh M a0 a1 s.1 s.2) (v2, v3)
noncomputable def fX7_extreme (n : Nat) (Sh : Sp) (M : Mm) (a0 : Nat) (a1 : Int32) : Option Int32 :=
  fX7_extreme_4 n Sh M a0 a1 0 1
set_option maxRecDepth 100000 in
set_option maxHeartbeats 4000000 in
theorem kX7_extreme {l : Launch} {G : Gt} {n : Nat} {Sh : Sp} {M : Mm} {a0 : Nat} {a1 : Int32} (hT : Sh a0 = some (.inl 7)) {r : Int32} (h : fX7_extreme n Sh M a0 a1 = some r) : Ct l yX7_extreme cX7_extreme 5 (some .int) rmX7_extreme G Sh M [.ref a0, .int a1] (some (.int r)) M := by
  refine Ct.of (by decide) (Nat.le_of_ble_eq_true rfl) ?_
  intro p e s m args below meth c ls C hK hX hP hS hb hlk hr hl
  replace hl : lv_has ls 5 [(0, .ref a0), (1, .int a1)] := hl
  have J4 : ∀ (k : Nat) (v2 : Int32) (v3 : Int32) (H : Heap) (locs : List Loc) (ls : Array Slot), HM G Sh M H → SS G s s.heap.size H locs → lv_has ls 5 [(0, .ref a0), (1, .int a1), (2, .int v2), (3, .int v3)] → iter k (fun s => fX7_extreme_4b n Sh M a0 a1 s.1 s.2) (v2, v3) = some r → W p l e rmX7_extreme s m args below meth c H locs 0 0 (MQ below (QG G Sh M (some (.int r))) args s rmX7_extreme.cells rmX7_extreme.slots (AA G)) (F0 m 4 ls []) := by
    intro k
    induction k with
    | zero => intro v2 v3 H locs ls hP hS hl h; exact (iter_0 h).elim
    | succ k ih1 =>
      intro v2 v3 H locs ls hP hS hl h
      obtain ⟨z1, h, hz1⟩ := iter_some h
      replace h : fX7_extreme_4b n Sh M a0 a1 v2 v3 = some z1 := h
      have J67 : ∀ (v3 : Int32) (t0 : Int32) (H : Heap) (locs : List Loc) (ls : Array Slot), HM G Sh M H → SS G s s.heap.size H locs → lv_has ls 5 [(0, .ref a0), (1, .int a1), (3, .int v3)] → fX7_extreme_67 n Sh M a0 a1 v3 t0 = some z1 → W p l e rmX7_extreme s m args below meth c H locs 0 0 (MQ below (QG G Sh M (some (.int r))) args s rmX7_extreme.cells rmX7_extreme.slots (AA G)) (F0 m 67 ls [.int t0]) := by
        intro v3 t0 H locs ls hP hS hl h
        unfold fX7_extreme_67 at h
        refine lv_istore_n (lv' := [(2, .int t0), (0, .ref a0), (1, .int a1), (3, .int v3)]) C.1 C.2.1 dX7_extreme_67 rfl hl (by decide) rfl (fun ls hl => ?_)
        refine lv_iinc (v := (v3 + 1)) (lv' := [(3, .int (v3 + 1)), (2, .int t0), (0, .ref a0), (1, .int a1)]) C.1 C.2.1 dX7_extreme_68 hl (k := 3) rfl rfl (by decide) rfl (fun ls hl => ?_)
        refine lv_goto (tgt := 4) C.1 C.2.1 dX7_extreme_71 (by decide) ?_
        have e := Option.some.inj h
        rw [← e] at hz1
        exact ih1 (t0) ((v3 + 1)) _ _ _ hP hS (lv_sub hl [2, 3, 1, 0] rfl) (itK_inl hz1)
      have J66 : ∀ (v2 : Int32) (v3 : Int32) (H : Heap) (locs : List Loc) (ls : Array Slot), HM G Sh M H → SS G s s.heap.size H locs → lv_has ls 5 [(0, .ref a0), (1, .int a1), (2, .int v2), (3, .int v3)] → fX7_extreme_66 n Sh M a0 a1 v2 v3 = some z1 → W p l e rmX7_extreme s m args below meth c H locs 0 0 (MQ below (QG G Sh M (some (.int r))) args s rmX7_extreme.cells rmX7_extreme.slots (AA G)) (F0 m 66 ls []) := by
        intro v2 v3 H locs ls hP hS hl h
        unfold fX7_extreme_66 at h
        refine lv_iload_n C.1 C.2.1 dX7_extreme_66 rfl (lv_at hl 2 rfl) ?_
        exact J67 (v3) (v2) _ _ _ hP hS (lv_sub hl [0, 1, 3] rfl) h
      have J62 : ∀ (v3 : Int32) (H : Heap) (locs : List Loc) (ls : Array Slot), HM G Sh M H → SS G s s.heap.size H locs → lv_has ls 5 [(0, .ref a0), (1, .int a1), (3, .int v3)] → fX7_extreme_62 n Sh M a0 a1 v3 = some z1 → W p l e rmX7_extreme s m args below meth c H locs 0 0 (MQ below (QG G Sh M (some (.int r))) args s rmX7_extreme.cells rmX7_extreme.slots (AA G)) (F0 m 62 ls []) := by
        intro v3 H locs ls hP hS hl h
        unfold fX7_extreme_62 at h
        refine lv_iload_n C.1 C.2.1 dX7_extreme_62 rfl (lv_at hl 2 rfl) ?_
        refine lv_goto (tgt := 67) C.1 C.2.1 dX7_extreme_63 (by decide) ?_
        exact J67 (v3) (v3) _ _ _ hP hS (lv_sub hl [0, 1, 2] rfl) h
      unfold fX7_extreme_4b at h
      refine lv_iload_n C.1 C.2.1 dX7_extreme_4 rfl (lv_at hl 3 rfl) ?_
      refine lv_aload_n C.1 C.2.1 dX7_extreme_5 rfl (lv_at hl 0 rfl) ?_
      refine r_tF C hK hP hT cl_7 (k := 0) (by decide) wd_1144 rfl dX7_extreme_6 h (fun b1 h => ?_)
      refine lv_sipush (v := 720) C.1 C.2.1 dX7_extreme_9 (by decide) ?_
      refine r_aI C hK hP dX7_extreme_12 h (fun x2 h => ?_)
      refine b_ige (tgt := 74) C dX7_extreme_13 (by decide) h (fun h => ?_) (fun h => ?_)
      · refine lv_aload_n C.1 C.2.1 dX7_extreme_16 rfl (lv_at hl 0 rfl) ?_
        refine r_tF C hK hP hT cl_7 (k := 0) (by decide) wd_1144 rfl dX7_extreme_17 h (fun b3 h => ?_)
        refine lv_iload_n C.1 C.2.1 dX7_extreme_20 rfl (lv_at hl 3 rfl) ?_
        obtain ⟨r4, hc, h⟩ := bS h
        refine r_S1 C hK hX hb hP hS hl.1 (kX7_startOf hc) wd_1237 mo_X7_startOf wd_1238 ⟨Nat.le_of_ble_eq_true rfl, Nat.le_of_ble_eq_true rfl⟩ ⟨Nat.le_of_ble_eq_true rfl, Nat.le_of_ble_eq_true rfl⟩ rfl (rest := [.ref b3]) rfl (Nat.le_of_ble_eq_true rfl) dX7_extreme_21 (fun H locs hP hS => ?_)
        refine r_aI C hK hP dX7_extreme_24 h (fun x5 h => ?_)
        refine lv_istore (lv' := [(4, .int x5), (0, .ref a0), (1, .int a1), (2, .int v2), (3, .int v3)]) C.1 C.2.1 dX7_extreme_25 hl (by decide) rfl (fun ls hl => ?_)
        refine lv_iload_n C.1 C.2.1 dX7_extreme_27 rfl (lv_at hl 2 rfl) ?_
        refine b_eq (tgt := 48) C dX7_extreme_28 (by decide) h (fun h => ?_) (fun h => ?_)
        · refine lv_iload C.1 C.2.1 dX7_extreme_48 (lv_at hl 0 rfl) ?_
          refine lv_aload_n C.1 C.2.1 dX7_extreme_50 rfl (lv_at hl 1 rfl) ?_
          refine r_tF C hK hP hT cl_7 (k := 0) (by decide) wd_1144 rfl dX7_extreme_51 h (fun b6 h => ?_)
          refine lv_iload_n C.1 C.2.1 dX7_extreme_54 rfl (lv_at hl 3 rfl) ?_
          obtain ⟨r7, hc, h⟩ := bS h
          refine r_S1 C hK hX hb hP hS hl.1 (kX7_startOf hc) wd_1237 mo_X7_startOf wd_1238 ⟨Nat.le_of_ble_eq_true rfl, Nat.le_of_ble_eq_true rfl⟩ ⟨Nat.le_of_ble_eq_true rfl, Nat.le_of_ble_eq_true rfl⟩ rfl (rest := [.ref b6, .int x5]) rfl (Nat.le_of_ble_eq_true rfl) dX7_extreme_55 (fun H locs hP hS => ?_)
          refine r_aI C hK hP dX7_extreme_58 h (fun x8 h => ?_)
          refine b_ige (tgt := 66) C dX7_extreme_59 (by decide) h (fun h => ?_) (fun h => ?_)
          · exact J62 (v3) _ _ _ hP hS (lv_sub hl [1, 2, 4] rfl) h
          · exact J66 (v2) (v3) _ _ _ hP hS (lv_sub hl [1, 2, 3, 4] rfl) h
        · refine lv_iload C.1 C.2.1 dX7_extreme_31 (lv_at hl 0 rfl) ?_
          refine lv_aload_n C.1 C.2.1 dX7_extreme_33 rfl (lv_at hl 1 rfl) ?_
          refine r_tF C hK hP hT cl_7 (k := 0) (by decide) wd_1144 rfl dX7_extreme_34 h (fun b9 h => ?_)
          refine lv_iload_n C.1 C.2.1 dX7_extreme_37 rfl (lv_at hl 3 rfl) ?_
          obtain ⟨r10, hc, h⟩ := bS h
          refine r_S1 C hK hX hb hP hS hl.1 (kX7_startOf hc) wd_1237 mo_X7_startOf wd_1238 ⟨Nat.le_of_ble_eq_true rfl, Nat.le_of_ble_eq_true rfl⟩ ⟨Nat.le_of_ble_eq_true rfl, Nat.le_of_ble_eq_true rfl⟩ rfl (rest := [.ref b9, .int x5]) rfl (Nat.le_of_ble_eq_true rfl) dX7_extreme_38 (fun H locs hP hS => ?_)
          refine r_aI C hK hP dX7_extreme_41 h (fun x11 h => ?_)
          refine b_ile (tgt := 66) C dX7_extreme_42 (by decide) h (fun h => ?_) (fun h => ?_)
          · exact J66 (v2) (v3) _ _ _ hP hS (lv_sub hl [1, 2, 3, 4] rfl) h
          · refine lv_goto (tgt := 62) C.1 C.2.1 dX7_extreme_45 (by decide) ?_
            exact J62 (v3) _ _ _ hP hS (lv_sub hl [1, 2, 4] rfl) h
      · refine lv_iload_n C.1 C.2.1 dX7_extreme_74 rfl (lv_at hl 2 rfl) ?_
        have e := Option.some.inj h
        rw [← e] at hz1
        replace e := itK_inr hz1
        exact q_i C hlk hP hS hr (by rw [← e]) rfl dX7_extreme_75
  unfold fX7_extreme at h
  refine lv_iconst (v := 0) C.1 C.2.1 dX7_extreme_0 (by decide) ?_
  refine lv_istore_n (lv' := [(2, .int 0), (0, .ref a0), (1, .int a1)]) C.1 C.2.1 dX7_extreme_1 rfl hl (by decide) rfl (fun ls hl => ?_)
  refine lv_iconst (v := 1) C.1 C.2.1 dX7_extreme_2 (by decide) ?_
  refine lv_istore_n (lv' := [(3, .int 1), (2, .int 0), (0, .ref a0), (1, .int a1)]) C.1 C.2.1 dX7_extreme_3 rfl hl (by decide) rfl (fun ls hl => ?_)
  exact J4  n (0) (1) _ _ _ hP hS (lv_sub hl [2, 3, 1, 0] rfl) h
theorem dX7_queues_0 : decode cX7_queues 0 = .ok (.aload_n 0, 1) := by decide +kernel
theorem dX7_queues_1 : decode cX7_queues 1 = .ok (.getfield 7, 3) := by decide +kernel
theorem dX7_queues_4 : decode cX7_queues 4 = .ok (.sipush 720, 3) := by decide +kernel
theorem dX7_queues_7 : decode cX7_queues 7 = .ok (.iaload, 1) := by decide +kernel
theorem dX7_queues_8 : decode cX7_queues 8 = .ok (.bipush 10, 2) := by decide +kernel
theorem dX7_queues_10 : decode cX7_queues 10 = .ok (.if_icmp .ne 12, 3) := by decide +kernel
theorem dX7_queues_13 : decode cX7_queues 13 = .ok (.aload_n 0, 1) := by decide +kernel
theorem dX7_queues_14 : decode cX7_queues 14 = .ok (.aload_n 0, 1) := by decide +kernel
theorem dX7_queues_15 : decode cX7_queues 15 = .ok (.iconst 1, 1) := by decide +kernel
theorem dX7_queues_16 : decode cX7_queues 16 = .ok (.invokevirtual 104, 3) := by decide +kernel
theorem dX7_queues_19 : decode cX7_queues 19 = .ok (.invokevirtual 108, 3) := by decide +kernel
theorem dX7_queues_22 : decode cX7_queues 22 = .ok (.aload_n 0, 1) := by decide +kernel
theorem dX7_queues_23 : decode cX7_queues 23 = .ok (.getfield 7, 3) := by decide +kernel
theorem dX7_queues_26 : decode cX7_queues 26 = .ok (.sipush 720, 3) := by decide +kernel
theorem dX7_queues_29 : decode cX7_queues 29 = .ok (.iaload, 1) := by decide +kernel
theorem dX7_queues_30 : decode cX7_queues 30 = .ok (.invokestatic 100, 3) := by decide +kernel
theorem dX7_queues_33 : decode cX7_queues 33 = .ok (.istore 4, 2) := by decide +kernel
theorem dX7_queues_35 : decode cX7_queues 35 = .ok (.aload_n 0, 1) := by decide +kernel
theorem dX7_queues_36 : decode cX7_queues 36 = .ok (.getfield 7, 3) := by decide +kernel
theorem dX7_queues_39 : decode cX7_queues 39 = .ok (.iload 4, 2) := by decide +kernel
theorem dX7_queues_41 : decode cX7_queues 41 = .ok (.iload_n 1, 1) := by decide +kernel
theorem dX7_queues_42 : decode cX7_queues 42 = .ok (.iastore, 1) := by decide +kernel
theorem dX7_queues_43 : decode cX7_queues 43 = .ok (.aload_n 0, 1) := by decide +kernel
theorem dX7_queues_44 : decode cX7_queues 44 = .ok (.getfield 7, 3) := by decide +kernel
theorem dX7_queues_47 : decode cX7_queues 47 = .ok (.iload 4, 2) := by decide +kernel
theorem dX7_queues_49 : decode cX7_queues 49 = .ok (.iconst 1, 1) := by decide +kernel
theorem dX7_queues_50 : decode cX7_queues 50 = .ok (.iadd, 1) := by decide +kernel
theorem dX7_queues_51 : decode cX7_queues 51 = .ok (.iload_n 2, 1) := by decide +kernel
theorem dX7_queues_52 : decode cX7_queues 52 = .ok (.iastore, 1) := by decide +kernel
theorem dX7_queues_53 : decode cX7_queues 53 = .ok (.aload_n 0, 1) := by decide +kernel
theorem dX7_queues_54 : decode cX7_queues 54 = .ok (.getfield 7, 3) := by decide +kernel
theorem dX7_queues_57 : decode cX7_queues 57 = .ok (.iload 4, 2) := by decide +kernel
theorem dX7_queues_59 : decode cX7_queues 59 = .ok (.iconst 2, 1) := by decide +kernel
theorem dX7_queues_60 : decode cX7_queues 60 = .ok (.iadd, 1) := by decide +kernel
theorem dX7_queues_61 : decode cX7_queues 61 = .ok (.iload_n 3, 1) := by decide +kernel
theorem dX7_queues_62 : decode cX7_queues 62 = .ok (.iastore, 1) := by decide +kernel
theorem dX7_queues_63 : decode cX7_queues 63 = .ok (.aload_n 0, 1) := by decide +kernel
theorem dX7_queues_64 : decode cX7_queues 64 = .ok (.getfield 7, 3) := by decide +kernel
theorem dX7_queues_67 : decode cX7_queues 67 = .ok (.iload 4, 2) := by decide +kernel
theorem dX7_queues_69 : decode cX7_queues 69 = .ok (.iconst 3, 1) := by decide +kernel
theorem dX7_queues_70 : decode cX7_queues 70 = .ok (.iadd, 1) := by decide +kernel
theorem dX7_queues_71 : decode cX7_queues 71 = .ok (.aload_n 0, 1) := by decide +kernel
theorem dX7_queues_72 : decode cX7_queues 72 = .ok (.getfield 58, 3) := by decide +kernel
theorem dX7_queues_75 : decode cX7_queues 75 = .ok (.iastore, 1) := by decide +kernel
theorem dX7_queues_76 : decode cX7_queues 76 = .ok (.iconst 0, 1) := by decide +kernel
theorem dX7_queues_77 : decode cX7_queues 77 = .ok (.istore 5, 2) := by decide +kernel
theorem dX7_queues_79 : decode cX7_queues 79 = .ok (.iload 5, 2) := by decide +kernel
theorem dX7_queues_81 : decode cX7_queues 81 = .ok (.aload_n 0, 1) := by decide +kernel
theorem dX7_queues_82 : decode cX7_queues 82 = .ok (.getfield 58, 3) := by decide +kernel
theorem dX7_queues_85 : decode cX7_queues 85 = .ok (.if_icmp .ge 28, 3) := by decide +kernel
theorem dX7_queues_88 : decode cX7_queues 88 = .ok (.aload_n 0, 1) := by decide +kernel
theorem dX7_queues_89 : decode cX7_queues 89 = .ok (.getfield 7, 3) := by decide +kernel
theorem dX7_queues_92 : decode cX7_queues 92 = .ok (.iload 4, 2) := by decide +kernel
theorem dX7_queues_94 : decode cX7_queues 94 = .ok (.iconst 4, 1) := by decide +kernel
theorem dX7_queues_95 : decode cX7_queues 95 = .ok (.iadd, 1) := by decide +kernel
theorem dX7_queues_96 : decode cX7_queues 96 = .ok (.iload 5, 2) := by decide +kernel
theorem dX7_queues_98 : decode cX7_queues 98 = .ok (.iadd, 1) := by decide +kernel
theorem dX7_queues_99 : decode cX7_queues 99 = .ok (.aload_n 0, 1) := by decide +kernel
theorem dX7_queues_100 : decode cX7_queues 100 = .ok (.getfield 19, 3) := by decide +kernel
theorem dX7_queues_103 : decode cX7_queues 103 = .ok (.iload 5, 2) := by decide +kernel
theorem dX7_queues_105 : decode cX7_queues 105 = .ok (.iaload, 1) := by decide +kernel
theorem dX7_queues_106 : decode cX7_queues 106 = .ok (.iastore, 1) := by decide +kernel
theorem dX7_queues_107 : decode cX7_queues 107 = .ok (.iinc 5 1, 3) := by decide +kernel
theorem dX7_queues_110 : decode cX7_queues 110 = .ok (.goto (-31), 3) := by decide +kernel
theorem dX7_queues_113 : decode cX7_queues 113 = .ok (.aload_n 0, 1) := by decide +kernel
theorem dX7_queues_114 : decode cX7_queues 114 = .ok (.getfield 7, 3) := by decide +kernel
theorem dX7_queues_117 : decode cX7_queues 117 = .ok (.sipush 720, 3) := by decide +kernel
theorem dX7_queues_120 : decode cX7_queues 120 = .ok (.dup2, 1) := by decide +kernel
theorem dX7_queues_121 : decode cX7_queues 121 = .ok (.iaload, 1) := by decide +kernel
theorem dX7_queues_122 : decode cX7_queues 122 = .ok (.iconst 1, 1) := by decide +kernel
theorem dX7_queues_123 : decode cX7_queues 123 = .ok (.iadd, 1) := by decide +kernel
theorem dX7_queues_124 : decode cX7_queues 124 = .ok (.iastore, 1) := by decide +kernel
theorem dX7_queues_125 : decode cX7_queues 125 = .ok (.return_, 1) := by decide +kernel
abbrev rmX7_queues : Room := { frames := 3, cells := 0, slots := 0, locals := 84 }
noncomputable def fX7_queues_113 (n : Nat) (Sh : Sp) (a0 : Nat) (a1 : Int32) (a2 : Int32) (a3 : Int32) (M : Mm) : Option Mm :=
  tF M a0 0 fun b1 =>
  aI Sh M b1 0 720 fun x2 =>
  sI Sh M b1 720 (x2 + 1) fun M3 =>
  some M3
noncomputable def fX7_queues_79b (n : Nat) (Sh : Sp) (a0 : Nat) (a1 : Int32) (a2 : Int32) (a3 : Int32) (M : Mm) (v4 : Int32) (v5 : Int32) : Option ((Int32 × Mm) ⊕ Mm) :=
  tI M a0 7 fun x4 =>
  if v5 < x4 then
    tF M a0 0 fun b5 =>
    tF M a0 6 fun b6 =>
    aI Sh M b6 0 v5 fun x7 =>
    sI Sh M b5 ((v4 + 4) + v5) x7 fun M8 =>
    some (Sum.inl ((v5 + 1), M8))
  else
    (fX7_queues_113 n Sh a0 a1 a2 a3 M).map Sum.inr
noncomputable def fX7_queues_79 (n : Nat) (Sh : Sp) (a0 : Nat) (a1 : Int32) (a2 : Int32) (a3 : Int32) (M : Mm) (v4 : Int32) (v5 : Int32) : Option Mm :=
  iter n (fun s => fX7_queues_79b n Sh a0 a1 a2 a3 s.2 v4 s.1) (v5, M)
noncomputable def fX7_queues_22 (n : Nat) (Sh : Sp) (a0 : Nat) (a1 : Int32) (a2 : Int32) (a3 : Int32) (M : Mm) : Option Mm :=
  tF M a0 0 fun b9 =>
  aI Sh M b9 0 720 fun x10 =>
  (fX7_startOf n Sh M x10).bind fun r11 =>
  tF M a0 0 fun b12 =>
  sI Sh M b12 r11 a1 fun M13 =>
  tF M13 a0 0 fun b14 =>
  sI Sh M13 b14 (r11 + 1) a2 fun M15 =>
  tF M15 a0 0 fun b16 =>
  sI Sh M15 b16 (r11 + 2) a3 fun M17 =>
  tF M17 a0 0 fun b18 =>
  tI M17 a0 7 fun x19 =>
  sI Sh M17 b18 (r11 + 3) x19 fun M20 =>
  fX7_queues_79 n Sh a0 a1 a2 a3 M20 r11 0
noncomputable def fX7_queues (n : Nat) (Sh : Sp) (M : Mm) (a0 : Nat) (a1 : Int32) (a2 : Int32) (a3 : Int32) : Option Mm :=
  tF M a0 0 fun b21 =>
  aI Sh M b21 0 720 fun x22 =>
  if x22 = 10 then
    (fX7_extreme n Sh M a0 1).bind fun r23 =>
    (fX7_drop n Sh M a0 r23).bind fun r24 =>
    fX7_queues_22 n Sh a0 a1 a2 a3 r24
  else
    fX7_queues_22 n Sh a0 a1 a2 a3 M
set_option maxRecDepth 100000 in
set_option maxHeartbeats 4000000 in
theorem kX7_queues {l : Launch} {G : Gt} {n : Nat} {Sh : Sp} {M : Mm} {a0 : Nat} {a1 : Int32} {a2 : Int32} {a3 : Int32} (hT : Sh a0 = some (.inl 7)) {r : Mm} (h : fX7_queues n Sh M a0 a1 a2 a3 = some r) : Ct l yX7_queues cX7_queues 6 none rmX7_queues G Sh M [.ref a0, .int a1, .int a2, .int a3] none r := by
  refine Ct.of (by decide) (Nat.le_of_ble_eq_true rfl) ?_
  intro p e s m args below meth c ls C hK hX hP hS hb hlk hr hl
  replace hl : lv_has ls 6 [(0, .ref a0), (1, .int a1), (2, .int a2), (3, .int a3)] := hl
  have J113 : ∀ (M : Mm) (H : Heap) (locs : List Loc) (ls : Array Slot), HM G Sh M H → SS G s s.heap.size H locs → lv_has ls 6 [(0, .ref a0), (1, .int a1), (2, .int a2), (3, .int a3)] → fX7_queues_113 n Sh a0 a1 a2 a3 M = some r → W p l e rmX7_queues s m args below meth c H locs 0 0 (MQ below (QG G Sh r none) args s rmX7_queues.cells rmX7_queues.slots (AA G)) (F0 m 113 ls []) := by
    intro M H locs ls hP hS hl h
    unfold fX7_queues_113 at h
    refine lv_aload_n C.1 C.2.1 dX7_queues_113 rfl (lv_at hl 0 rfl) ?_
    refine r_tF C hK hP hT cl_7 (k := 0) (by decide) wd_1144 rfl dX7_queues_114 h (fun b1 h => ?_)
    refine lv_sipush (v := 720) C.1 C.2.1 dX7_queues_117 (by decide) ?_
    refine lv_dup2_11 C.1 C.2.1 dX7_queues_120 rfl rfl ?_
    refine r_aI C hK hP dX7_queues_121 h (fun x2 h => ?_)
    refine lv_iconst (v := 1) C.1 C.2.1 dX7_queues_122 (by decide) ?_
    refine lv_iadd C.1 C.2.1 dX7_queues_123 ?_
    refine r_sI C hK hP hS dX7_queues_124 h (fun M3 H locs h hP hS => ?_)
    have e := Option.some.inj h
    exact q_v C hlk hP hS hr rfl e.symm dX7_queues_125
  have J79 : ∀ (v4 : Int32), ∀ (k : Nat) (v5 : Int32) (M : Mm) (H : Heap) (locs : List Loc) (ls : Array Slot), HM G Sh M H → SS G s s.heap.size H locs → lv_has ls 6 [(0, .ref a0), (1, .int a1), (2, .int a2), (3, .int a3), (4, .int v4), (5, .int v5)] → iter k (fun s => fX7_queues_79b n Sh a0 a1 a2 a3 s.2 v4 s.1) (v5, M) = some r → W p l e rmX7_queues s m args below meth c H locs 0 0 (MQ below (QG G Sh r none) args s rmX7_queues.cells rmX7_queues.slots (AA G)) (F0 m 79 ls []) := by
    intro v4 k
    induction k with
    | zero => intro v5 M H locs ls hP hS hl h; exact (iter_0 h).elim
    | succ k ih1 =>
      intro v5 M H locs ls hP hS hl h
      obtain ⟨z1, h, hz1⟩ := iter_some h
      replace h : fX7_queues_79b n Sh a0 a1 a2 a3 M v4 v5 = some z1 := h
      unfold fX7_queues_79b at h
      refine lv_iload C.1 C.2.1 dX7_queues_79 (lv_at hl 5 rfl) ?_
      refine lv_aload_n C.1 C.2.1 dX7_queues_81 rfl (lv_at hl 0 rfl) ?_
      refine r_tI C hK hP hT cl_7 (k := 7) (by decide) wd_1151 rfl dX7_queues_82 h (fun x4 h => ?_)
      refine b_ige (tgt := 113) C dX7_queues_85 (by decide) h (fun h => ?_) (fun h => ?_)
      · refine lv_aload_n C.1 C.2.1 dX7_queues_88 rfl (lv_at hl 0 rfl) ?_
        refine r_tF C hK hP hT cl_7 (k := 0) (by decide) wd_1144 rfl dX7_queues_89 h (fun b5 h => ?_)
        refine lv_iload C.1 C.2.1 dX7_queues_92 (lv_at hl 4 rfl) ?_
        refine lv_iconst (v := 4) C.1 C.2.1 dX7_queues_94 (by decide) ?_
        refine lv_iadd C.1 C.2.1 dX7_queues_95 ?_
        refine lv_iload C.1 C.2.1 dX7_queues_96 (lv_at hl 5 rfl) ?_
        refine lv_iadd C.1 C.2.1 dX7_queues_98 ?_
        refine lv_aload_n C.1 C.2.1 dX7_queues_99 rfl (lv_at hl 0 rfl) ?_
        refine r_tF C hK hP hT cl_7 (k := 6) (by decide) wd_1150 rfl dX7_queues_100 h (fun b6 h => ?_)
        refine lv_iload C.1 C.2.1 dX7_queues_103 (lv_at hl 5 rfl) ?_
        refine r_aI C hK hP dX7_queues_105 h (fun x7 h => ?_)
        refine r_sI C hK hP hS dX7_queues_106 h (fun M8 H locs h hP hS => ?_)
        refine lv_iinc (v := (v5 + 1)) (lv' := [(5, .int (v5 + 1)), (0, .ref a0), (1, .int a1), (2, .int a2), (3, .int a3), (4, .int v4)]) C.1 C.2.1 dX7_queues_107 hl (k := 5) rfl rfl (by decide) rfl (fun ls hl => ?_)
        refine lv_goto (tgt := 79) C.1 C.2.1 dX7_queues_110 (by decide) ?_
        have e := Option.some.inj h
        rw [← e] at hz1
        exact ih1 ((v5 + 1)) M8 _ _ _ hP hS (lv_sub hl [1, 2, 3, 4, 5, 0] rfl) (itK_inl hz1)
      · obtain ⟨w1, h, e⟩ := mS h
        rw [← e] at hz1
        replace e := itK_inr hz1
        rw [e] at h
        exact J113 (M) _ _ _ hP hS (lv_sub hl [0, 1, 2, 3] rfl) h
  have J22 : ∀ (M : Mm) (H : Heap) (locs : List Loc) (ls : Array Slot), HM G Sh M H → SS G s s.heap.size H locs → lv_has ls 6 [(0, .ref a0), (1, .int a1), (2, .int a2), (3, .int a3)] → fX7_queues_22 n Sh a0 a1 a2 a3 M = some r → W p l e rmX7_queues s m args below meth c H locs 0 0 (MQ below (QG G Sh r none) args s rmX7_queues.cells rmX7_queues.slots (AA G)) (F0 m 22 ls []) := by
    intro M H locs ls hP hS hl h
    unfold fX7_queues_22 at h
    refine lv_aload_n C.1 C.2.1 dX7_queues_22 rfl (lv_at hl 0 rfl) ?_
    refine r_tF C hK hP hT cl_7 (k := 0) (by decide) wd_1144 rfl dX7_queues_23 h (fun b9 h => ?_)
    refine lv_sipush (v := 720) C.1 C.2.1 dX7_queues_26 (by decide) ?_
    refine r_aI C hK hP dX7_queues_29 h (fun x10 h => ?_)
    obtain ⟨r11, hc, h⟩ := bS h
    refine r_S1 C hK hX hb hP hS hl.1 (kX7_startOf hc) wd_1237 mo_X7_startOf wd_1238 ⟨Nat.le_of_ble_eq_true rfl, Nat.le_of_ble_eq_true rfl⟩ ⟨Nat.le_of_ble_eq_true rfl, Nat.le_of_ble_eq_true rfl⟩ rfl (rest := []) rfl (Nat.le_of_ble_eq_true rfl) dX7_queues_30 (fun H locs hP hS => ?_)
    refine lv_istore (lv' := [(4, .int r11), (0, .ref a0), (1, .int a1), (2, .int a2), (3, .int a3)]) C.1 C.2.1 dX7_queues_33 hl (by decide) rfl (fun ls hl => ?_)
    refine lv_aload_n C.1 C.2.1 dX7_queues_35 rfl (lv_at hl 1 rfl) ?_
    refine r_tF C hK hP hT cl_7 (k := 0) (by decide) wd_1144 rfl dX7_queues_36 h (fun b12 h => ?_)
    refine lv_iload C.1 C.2.1 dX7_queues_39 (lv_at hl 0 rfl) ?_
    refine lv_iload_n C.1 C.2.1 dX7_queues_41 rfl (lv_at hl 2 rfl) ?_
    refine r_sI C hK hP hS dX7_queues_42 h (fun M13 H locs h hP hS => ?_)
    refine lv_aload_n C.1 C.2.1 dX7_queues_43 rfl (lv_at hl 1 rfl) ?_
    refine r_tF C hK hP hT cl_7 (k := 0) (by decide) wd_1144 rfl dX7_queues_44 h (fun b14 h => ?_)
    refine lv_iload C.1 C.2.1 dX7_queues_47 (lv_at hl 0 rfl) ?_
    refine lv_iconst (v := 1) C.1 C.2.1 dX7_queues_49 (by decide) ?_
    refine lv_iadd C.1 C.2.1 dX7_queues_50 ?_
    refine lv_iload_n C.1 C.2.1 dX7_queues_51 rfl (lv_at hl 3 rfl) ?_
    refine r_sI C hK hP hS dX7_queues_52 h (fun M15 H locs h hP hS => ?_)
    refine lv_aload_n C.1 C.2.1 dX7_queues_53 rfl (lv_at hl 1 rfl) ?_
    refine r_tF C hK hP hT cl_7 (k := 0) (by decide) wd_1144 rfl dX7_queues_54 h (fun b16 h => ?_)
    refine lv_iload C.1 C.2.1 dX7_queues_57 (lv_at hl 0 rfl) ?_
    refine lv_iconst (v := 2) C.1 C.2.1 dX7_queues_59 (by decide) ?_
    refine lv_iadd C.1 C.2.1 dX7_queues_60 ?_
    refine lv_iload_n C.1 C.2.1 dX7_queues_61 rfl (lv_at hl 4 rfl) ?_
    refine r_sI C hK hP hS dX7_queues_62 h (fun M17 H locs h hP hS => ?_)
    refine lv_aload_n C.1 C.2.1 dX7_queues_63 rfl (lv_at hl 1 rfl) ?_
    refine r_tF C hK hP hT cl_7 (k := 0) (by decide) wd_1144 rfl dX7_queues_64 h (fun b18 h => ?_)
    refine lv_iload C.1 C.2.1 dX7_queues_67 (lv_at hl 0 rfl) ?_
    refine lv_iconst (v := 3) C.1 C.2.1 dX7_queues_69 (by decide) ?_
    refine lv_iadd C.1 C.2.1 dX7_queues_70 ?_
    refine lv_aload_n C.1 C.2.1 dX7_queues_71 rfl (lv_at hl 1 rfl) ?_
    refine r_tI C hK hP hT cl_7 (k := 7) (by decide) wd_1151 rfl dX7_queues_72 h (fun x19 h => ?_)
    refine r_sI C hK hP hS dX7_queues_75 h (fun M20 H locs h hP hS => ?_)
    refine lv_iconst (v := 0) C.1 C.2.1 dX7_queues_76 (by decide) ?_
    refine lv_istore (lv' := [(5, .int 0), (4, .int r11), (0, .ref a0), (1, .int a1), (2, .int a2), (3, .int a3)]) C.1 C.2.1 dX7_queues_77 hl (by decide) rfl (fun ls hl => ?_)
    exact J79 (r11) n (0) M20 _ _ _ hP hS (lv_sub hl [2, 3, 4, 5, 1, 0] rfl) h
  unfold fX7_queues at h
  refine lv_aload_n C.1 C.2.1 dX7_queues_0 rfl (lv_at hl 0 rfl) ?_
  refine r_tF C hK hP hT cl_7 (k := 0) (by decide) wd_1144 rfl dX7_queues_1 h (fun b21 h => ?_)
  refine lv_sipush (v := 720) C.1 C.2.1 dX7_queues_4 (by decide) ?_
  refine r_aI C hK hP dX7_queues_7 h (fun x22 h => ?_)
  refine lv_bipush (v := 10) C.1 C.2.1 dX7_queues_8 (by decide) ?_
  refine b_ine (tgt := 22) C dX7_queues_10 (by decide) h (fun h => ?_) (fun h => ?_)
  · refine lv_aload_n C.1 C.2.1 dX7_queues_13 rfl (lv_at hl 0 rfl) ?_
    refine lv_aload_n C.1 C.2.1 dX7_queues_14 rfl (lv_at hl 0 rfl) ?_
    refine lv_iconst (v := 1) C.1 C.2.1 dX7_queues_15 (by decide) ?_
    obtain ⟨r23, hc, h⟩ := bS h
    refine r_V1 C hK hX hb hP hS hl.1 (kX7_extreme (hT) hc) hT cl_7 wd_1350 mo_X7_extreme wd_1352 wd_54 ⟨Nat.le_of_ble_eq_true rfl, Nat.le_of_ble_eq_true rfl⟩ ⟨Nat.le_of_ble_eq_true rfl, Nat.le_of_ble_eq_true rfl⟩ rfl (rest := [.ref a0]) rfl (Nat.le_of_ble_eq_true rfl) dX7_queues_16 (fun H locs hP hS => ?_)
    obtain ⟨r24, hc, h⟩ := bS h
    refine r_V0 C hK hX hb hP hS hl.1 (kX7_drop (hT) hc) hT cl_7 wd_1240 mo_X7_drop wd_1242 wd_33 ⟨Nat.le_of_ble_eq_true rfl, Nat.le_of_ble_eq_true rfl⟩ ⟨Nat.le_of_ble_eq_true rfl, Nat.le_of_ble_eq_true rfl⟩ rfl (rest := []) rfl (Nat.le_of_ble_eq_true rfl) dX7_queues_19 (fun H locs hP hS => ?_)
    exact J22 (r24) _ _ _ hP hS (lv_sub hl [0, 1, 2, 3] rfl) h
  · exact J22 (M) _ _ _ hP hS (lv_sub hl [0, 1, 2, 3] rfl) h
theorem dX7_regionOf_0 : decode cX7_regionOf 0 = .ok (.iload_n 1, 1) := by decide +kernel
theorem dX7_regionOf_1 : decode cX7_regionOf 1 = .ok (.istore_n 2, 1) := by decide +kernel
theorem dX7_regionOf_2 : decode cX7_regionOf 2 = .ok (.iload_n 2, 1) := by decide +kernel
theorem dX7_regionOf_3 : decode cX7_regionOf 3 = .ok (.iconst (-1), 1) := by decide +kernel
theorem dX7_regionOf_4 : decode cX7_regionOf 4 = .ok (.if_icmp .eq 23, 3) := by decide +kernel
theorem dX7_regionOf_7 : decode cX7_regionOf 7 = .ok (.aload_n 0, 1) := by decide +kernel
theorem dX7_regionOf_8 : decode cX7_regionOf 8 = .ok (.iload_n 2, 1) := by decide +kernel
theorem dX7_regionOf_9 : decode cX7_regionOf 9 = .ok (.bipush 8, 2) := by decide +kernel
theorem dX7_regionOf_11 : decode cX7_regionOf 11 = .ok (.invokevirtual 40, 3) := by decide +kernel
theorem dX7_regionOf_14 : decode cX7_regionOf 14 = .ok (.ifCond .ne 13, 3) := by decide +kernel
theorem dX7_regionOf_17 : decode cX7_regionOf 17 = .ok (.aload_n 0, 1) := by decide +kernel
theorem dX7_regionOf_18 : decode cX7_regionOf 18 = .ok (.iload_n 2, 1) := by decide +kernel
theorem dX7_regionOf_19 : decode cX7_regionOf 19 = .ok (.iconst 1, 1) := by decide +kernel
theorem dX7_regionOf_20 : decode cX7_regionOf 20 = .ok (.invokevirtual 40, 3) := by decide +kernel
theorem dX7_regionOf_23 : decode cX7_regionOf 23 = .ok (.istore_n 2, 1) := by decide +kernel
theorem dX7_regionOf_24 : decode cX7_regionOf 24 = .ok (.goto (-22), 3) := by decide +kernel
theorem dX7_regionOf_27 : decode cX7_regionOf 27 = .ok (.iload_n 2, 1) := by decide +kernel
theorem dX7_regionOf_28 : decode cX7_regionOf 28 = .ok (.iconst (-1), 1) := by decide +kernel
theorem dX7_regionOf_29 : decode cX7_regionOf 29 = .ok (.if_icmp .eq 14, 3) := by decide +kernel
theorem dX7_regionOf_32 : decode cX7_regionOf 32 = .ok (.aload_n 0, 1) := by decide +kernel
theorem dX7_regionOf_33 : decode cX7_regionOf 33 = .ok (.iload_n 2, 1) := by decide +kernel
theorem dX7_regionOf_34 : decode cX7_regionOf 34 = .ok (.bipush 8, 2) := by decide +kernel
theorem dX7_regionOf_36 : decode cX7_regionOf 36 = .ok (.invokevirtual 40, 3) := by decide +kernel
theorem dX7_regionOf_39 : decode cX7_regionOf 39 = .ok (.iconst 1, 1) := by decide +kernel
theorem dX7_regionOf_40 : decode cX7_regionOf 40 = .ok (.if_icmp .ne 7, 3) := by decide +kernel
theorem dX7_regionOf_43 : decode cX7_regionOf 43 = .ok (.iconst (-1), 1) := by decide +kernel
theorem dX7_regionOf_44 : decode cX7_regionOf 44 = .ok (.goto 4, 3) := by decide +kernel
theorem dX7_regionOf_47 : decode cX7_regionOf 47 = .ok (.iload_n 2, 1) := by decide +kernel
theorem dX7_regionOf_48 : decode cX7_regionOf 48 = .ok (.ireturn, 1) := by decide +kernel
abbrev rmX7_regionOf : Room := { frames := 2, cells := 0, slots := 0, locals := 62 }
noncomputable def fX7_regionOf_43 (n : Nat) (Sh : Sp) (M : Mm) (a0 : Nat) (a1 : Int32) : Option Int32 :=
  some (-1)
noncomputable def fX7_regionOf_27 (n : Nat) (Sh : Sp) (M : Mm) (a0 : Nat) (a1 : Int32) (v2 : Int32) : Option Int32 :=
  if v2 = (-1) then
    fX7_regionOf_43 n Sh M a0 a1
  else
    (fX7_of n Sh M a0 v2 8).bind fun r1 =>
    if r1 = 1 then
      fX7_regionOf_43 n Sh M a0 a1
    else
      some v2
noncomputable def fX7_regionOf_2b (n : Nat) (Sh : Sp) (M : Mm) (a0 : Nat) (a1 : Int32) (v2 : Int32) : Option (Int32 ⊕ Int32) :=
  if v2 = (-1) then
    (fX7_regionOf_27 n Sh M a0 a1 v2).map Sum.inr
  else
    (fX7_of n Sh M a0 v2 8).bind fun r2 =>
    if r2 = 0 then
      (fX7_of n Sh M a0 v2 1).bind fun r3 =>
      some (Sum.inl r3)
    else
      (fX7_regionOf_27 n Sh M a0 a1 v2).map Sum.inr
noncomputable def fX7_regionOf_2 (n : Nat) (Sh : Sp) (M : Mm) (a0 : Nat) (a1 : Int32) (v2 : Int32) : Option Int32 :=
  iter n (fun s => fX7_regionOf_2b n Sh M a0 a1 s) v2
noncomputable def fX7_regionOf (n : Nat) (Sh : Sp) (M : Mm) (a0 : Nat) (a1 : Int32) : Option Int32 :=
  fX7_regionOf_2 n Sh M a0 a1 a1
set_option maxRecDepth 100000 in
set_option maxHeartbeats 4000000 in
theorem kX7_regionOf {l : Launch} {G : Gt} {n : Nat} {Sh : Sp} {M : Mm} {a0 : Nat} {a1 : Int32} (hT : Sh a0 = some (.inl 7)) {r : Int32} (h : fX7_regionOf n Sh M a0 a1 = some r) : Ct l yX7_regionOf cX7_regionOf 3 (some .int) rmX7_regionOf G Sh M [.ref a0, .int a1] (some (.int r)) M := by
  refine Ct.of (by decide) (Nat.le_of_ble_eq_true rfl) ?_
  intro p e s m args below meth c ls C hK hX hP hS hb hlk hr hl
  replace hl : lv_has ls 3 [(0, .ref a0), (1, .int a1)] := hl
  have J43 : ∀ (H : Heap) (locs : List Loc) (ls : Array Slot), HM G Sh M H → SS G s s.heap.size H locs → lv_has ls 3 [(0, .ref a0), (1, .int a1)] → fX7_regionOf_43 n Sh M a0 a1 = some r → W p l e rmX7_regionOf s m args below meth c H locs 0 0 (MQ below (QG G Sh M (some (.int r))) args s rmX7_regionOf.cells rmX7_regionOf.slots (AA G)) (F0 m 43 ls []) := by
    intro  H locs ls hP hS hl h
    unfold fX7_regionOf_43 at h
    refine lv_iconst (v := (-1)) C.1 C.2.1 dX7_regionOf_43 (by decide) ?_
    refine lv_goto (tgt := 48) C.1 C.2.1 dX7_regionOf_44 (by decide) ?_
    have e := Option.some.inj h
    exact q_i C hlk hP hS hr (by rw [← e]) rfl dX7_regionOf_48
  have J27 : ∀ (v2 : Int32) (H : Heap) (locs : List Loc) (ls : Array Slot), HM G Sh M H → SS G s s.heap.size H locs → lv_has ls 3 [(0, .ref a0), (1, .int a1), (2, .int v2)] → fX7_regionOf_27 n Sh M a0 a1 v2 = some r → W p l e rmX7_regionOf s m args below meth c H locs 0 0 (MQ below (QG G Sh M (some (.int r))) args s rmX7_regionOf.cells rmX7_regionOf.slots (AA G)) (F0 m 27 ls []) := by
    intro v2 H locs ls hP hS hl h
    unfold fX7_regionOf_27 at h
    refine lv_iload_n C.1 C.2.1 dX7_regionOf_27 rfl (lv_at hl 2 rfl) ?_
    refine lv_iconst (v := (-1)) C.1 C.2.1 dX7_regionOf_28 (by decide) ?_
    refine b_ieq (tgt := 43) C dX7_regionOf_29 (by decide) h (fun h => ?_) (fun h => ?_)
    · exact J43  _ _ _ hP hS (lv_sub hl [0, 1] rfl) h
    · refine lv_aload_n C.1 C.2.1 dX7_regionOf_32 rfl (lv_at hl 0 rfl) ?_
      refine lv_iload_n C.1 C.2.1 dX7_regionOf_33 rfl (lv_at hl 2 rfl) ?_
      refine lv_bipush (v := 8) C.1 C.2.1 dX7_regionOf_34 (by decide) ?_
      obtain ⟨r1, hc, h⟩ := bS h
      refine r_V1 C hK hX hb hP hS hl.1 (kX7_of (hT) hc) hT cl_7 wd_1197 mo_X7_of wd_1199 wd_24 ⟨Nat.le_of_ble_eq_true rfl, Nat.le_of_ble_eq_true rfl⟩ ⟨Nat.le_of_ble_eq_true rfl, Nat.le_of_ble_eq_true rfl⟩ rfl (rest := []) rfl (Nat.le_of_ble_eq_true rfl) dX7_regionOf_36 (fun H locs hP hS => ?_)
      refine lv_iconst (v := 1) C.1 C.2.1 dX7_regionOf_39 (by decide) ?_
      refine b_ine (tgt := 47) C dX7_regionOf_40 (by decide) h (fun h => ?_) (fun h => ?_)
      · exact J43  _ _ _ hP hS (lv_sub hl [0, 1] rfl) h
      · refine lv_iload_n C.1 C.2.1 dX7_regionOf_47 rfl (lv_at hl 2 rfl) ?_
        have e := Option.some.inj h
        exact q_i C hlk hP hS hr (by rw [← e]) rfl dX7_regionOf_48
  have J2 : ∀ (k : Nat) (v2 : Int32) (H : Heap) (locs : List Loc) (ls : Array Slot), HM G Sh M H → SS G s s.heap.size H locs → lv_has ls 3 [(0, .ref a0), (1, .int a1), (2, .int v2)] → iter k (fun s => fX7_regionOf_2b n Sh M a0 a1 s) v2 = some r → W p l e rmX7_regionOf s m args below meth c H locs 0 0 (MQ below (QG G Sh M (some (.int r))) args s rmX7_regionOf.cells rmX7_regionOf.slots (AA G)) (F0 m 2 ls []) := by
    intro k
    induction k with
    | zero => intro v2 H locs ls hP hS hl h; exact (iter_0 h).elim
    | succ k ih1 =>
      intro v2 H locs ls hP hS hl h
      obtain ⟨z1, h, hz1⟩ := iter_some h
      replace h : fX7_regionOf_2b n Sh M a0 a1 v2 = some z1 := h
      unfold fX7_regionOf_2b at h
      refine lv_iload_n C.1 C.2.1 dX7_regionOf_2 rfl (lv_at hl 2 rfl) ?_
      refine lv_iconst (v := (-1)) C.1 C.2.1 dX7_regionOf_3 (by decide) ?_
      refine b_ieq (tgt := 27) C dX7_regionOf_4 (by decide) h (fun h => ?_) (fun h => ?_)
      · obtain ⟨w1, h, e⟩ := mS h
        rw [← e] at hz1
        replace e := itK_inr hz1
        rw [e] at h
        exact J27 (v2) _ _ _ hP hS (lv_sub hl [0, 1, 2] rfl) h
      · refine lv_aload_n C.1 C.2.1 dX7_regionOf_7 rfl (lv_at hl 0 rfl) ?_
        refine lv_iload_n C.1 C.2.1 dX7_regionOf_8 rfl (lv_at hl 2 rfl) ?_
        refine lv_bipush (v := 8) C.1 C.2.1 dX7_regionOf_9 (by decide) ?_
        obtain ⟨r2, hc, h⟩ := bS h
        refine r_V1 C hK hX hb hP hS hl.1 (kX7_of (hT) hc) hT cl_7 wd_1197 mo_X7_of wd_1199 wd_24 ⟨Nat.le_of_ble_eq_true rfl, Nat.le_of_ble_eq_true rfl⟩ ⟨Nat.le_of_ble_eq_true rfl, Nat.le_of_ble_eq_true rfl⟩ rfl (rest := []) rfl (Nat.le_of_ble_eq_true rfl) dX7_regionOf_11 (fun H locs hP hS => ?_)
        refine b_ne (tgt := 27) C dX7_regionOf_14 (by decide) h (fun h => ?_) (fun h => ?_)
        · refine lv_aload_n C.1 C.2.1 dX7_regionOf_17 rfl (lv_at hl 0 rfl) ?_
          refine lv_iload_n C.1 C.2.1 dX7_regionOf_18 rfl (lv_at hl 2 rfl) ?_
          refine lv_iconst (v := 1) C.1 C.2.1 dX7_regionOf_19 (by decide) ?_
          obtain ⟨r3, hc, h⟩ := bS h
          refine r_V1 C hK hX hb hP hS hl.1 (kX7_of (hT) hc) hT cl_7 wd_1197 mo_X7_of wd_1199 wd_24 ⟨Nat.le_of_ble_eq_true rfl, Nat.le_of_ble_eq_true rfl⟩ ⟨Nat.le_of_ble_eq_true rfl, Nat.le_of_ble_eq_true rfl⟩ rfl (rest := []) rfl (Nat.le_of_ble_eq_true rfl) dX7_regionOf_20 (fun H locs hP hS => ?_)
          refine lv_istore_n (lv' := [(2, .int r3), (0, .ref a0), (1, .int a1)]) C.1 C.2.1 dX7_regionOf_23 rfl hl (by decide) rfl (fun ls hl => ?_)
          refine lv_goto (tgt := 2) C.1 C.2.1 dX7_regionOf_24 (by decide) ?_
          have e := Option.some.inj h
          rw [← e] at hz1
          exact ih1 (r3) _ _ _ hP hS (lv_sub hl [1, 2, 0] rfl) (itK_inl hz1)
        · obtain ⟨w1, h, e⟩ := mS h
          rw [← e] at hz1
          replace e := itK_inr hz1
          rw [e] at h
          exact J27 (v2) _ _ _ hP hS (lv_sub hl [0, 1, 2] rfl) h
  unfold fX7_regionOf at h
  refine lv_iload_n C.1 C.2.1 dX7_regionOf_0 rfl (lv_at hl 1 rfl) ?_
  refine lv_istore_n (lv' := [(2, .int a1), (0, .ref a0), (1, .int a1)]) C.1 C.2.1 dX7_regionOf_1 rfl hl (by decide) rfl (fun ls hl => ?_)
  exact J2  n (a1) _ _ _ hP hS (lv_sub hl [1, 2, 0] rfl) h
theorem dX7_announceChange_0 : decode cX7_announceChange 0 = .ok (.aload_n 0, 1) := by decide +kernel
theorem dX7_announceChange_1 : decode cX7_announceChange 1 = .ok (.iload_n 1, 1) := by decide +kernel
theorem dX7_announceChange_2 : decode cX7_announceChange 2 = .ok (.invokevirtual 111, 3) := by decide +kernel
theorem dX7_announceChange_5 : decode cX7_announceChange 5 = .ok (.istore_n 2, 1) := by decide +kernel
theorem dX7_announceChange_6 : decode cX7_announceChange 6 = .ok (.iload_n 2, 1) := by decide +kernel
theorem dX7_announceChange_7 : decode cX7_announceChange 7 = .ok (.iconst (-1), 1) := by decide +kernel
theorem dX7_announceChange_8 : decode cX7_announceChange 8 = .ok (.if_icmp .eq 11, 3) := by decide +kernel
theorem dX7_announceChange_11 : decode cX7_announceChange 11 = .ok (.aload_n 0, 1) := by decide +kernel
theorem dX7_announceChange_12 : decode cX7_announceChange 12 = .ok (.iload_n 1, 1) := by decide +kernel
theorem dX7_announceChange_13 : decode cX7_announceChange 13 = .ok (.invokevirtual 114, 3) := by decide +kernel
theorem dX7_announceChange_16 : decode cX7_announceChange 16 = .ok (.ifCond .ne 4, 3) := by decide +kernel
theorem dX7_announceChange_19 : decode cX7_announceChange 19 = .ok (.return_, 1) := by decide +kernel
theorem dX7_announceChange_20 : decode cX7_announceChange 20 = .ok (.aload_n 0, 1) := by decide +kernel
theorem dX7_announceChange_21 : decode cX7_announceChange 21 = .ok (.iload_n 2, 1) := by decide +kernel
theorem dX7_announceChange_22 : decode cX7_announceChange 22 = .ok (.bipush 9, 2) := by decide +kernel
theorem dX7_announceChange_24 : decode cX7_announceChange 24 = .ok (.invokevirtual 40, 3) := by decide +kernel
theorem dX7_announceChange_27 : decode cX7_announceChange 27 = .ok (.iconst 1, 1) := by decide +kernel
theorem dX7_announceChange_28 : decode cX7_announceChange 28 = .ok (.if_icmp .ne 7, 3) := by decide +kernel
theorem dX7_announceChange_31 : decode cX7_announceChange 31 = .ok (.iload_n 2, 1) := by decide +kernel
theorem dX7_announceChange_32 : decode cX7_announceChange 32 = .ok (.goto 4, 3) := by decide +kernel
theorem dX7_announceChange_35 : decode cX7_announceChange 35 = .ok (.iload_n 1, 1) := by decide +kernel
theorem dX7_announceChange_36 : decode cX7_announceChange 36 = .ok (.istore_n 3, 1) := by decide +kernel
theorem dX7_announceChange_37 : decode cX7_announceChange 37 = .ok (.aload_n 0, 1) := by decide +kernel
theorem dX7_announceChange_38 : decode cX7_announceChange 38 = .ok (.iload_n 3, 1) := by decide +kernel
theorem dX7_announceChange_39 : decode cX7_announceChange 39 = .ok (.iconst 5, 1) := by decide +kernel
theorem dX7_announceChange_40 : decode cX7_announceChange 40 = .ok (.invokevirtual 117, 3) := by decide +kernel
theorem dX7_announceChange_43 : decode cX7_announceChange 43 = .ok (.aload_n 0, 1) := by decide +kernel
theorem dX7_announceChange_44 : decode cX7_announceChange 44 = .ok (.getfield 58, 3) := by decide +kernel
theorem dX7_announceChange_47 : decode cX7_announceChange 47 = .ok (.ifCond .ne 4, 3) := by decide +kernel
theorem dX7_announceChange_50 : decode cX7_announceChange 50 = .ok (.return_, 1) := by decide +kernel
theorem dX7_announceChange_51 : decode cX7_announceChange 51 = .ok (.aload_n 0, 1) := by decide +kernel
theorem dX7_announceChange_52 : decode cX7_announceChange 52 = .ok (.iload_n 2, 1) := by decide +kernel
theorem dX7_announceChange_53 : decode cX7_announceChange 53 = .ok (.bipush 8, 2) := by decide +kernel
theorem dX7_announceChange_55 : decode cX7_announceChange 55 = .ok (.invokevirtual 40, 3) := by decide +kernel
theorem dX7_announceChange_58 : decode cX7_announceChange 58 = .ok (.iconst 3, 1) := by decide +kernel
theorem dX7_announceChange_59 : decode cX7_announceChange 59 = .ok (.if_icmp .ne 7, 3) := by decide +kernel
theorem dX7_announceChange_62 : decode cX7_announceChange 62 = .ok (.iconst 1, 1) := by decide +kernel
theorem dX7_announceChange_63 : decode cX7_announceChange 63 = .ok (.goto 4, 3) := by decide +kernel
theorem dX7_announceChange_66 : decode cX7_announceChange 66 = .ok (.iconst 2, 1) := by decide +kernel
theorem dX7_announceChange_67 : decode cX7_announceChange 67 = .ok (.istore 4, 2) := by decide +kernel
theorem dX7_announceChange_69 : decode cX7_announceChange 69 = .ok (.aload_n 0, 1) := by decide +kernel
theorem dX7_announceChange_70 : decode cX7_announceChange 70 = .ok (.getfield 7, 3) := by decide +kernel
theorem dX7_announceChange_73 : decode cX7_announceChange 73 = .ok (.sipush 720, 3) := by decide +kernel
theorem dX7_announceChange_76 : decode cX7_announceChange 76 = .ok (.iaload, 1) := by decide +kernel
theorem dX7_announceChange_77 : decode cX7_announceChange 77 = .ok (.iconst 1, 1) := by decide +kernel
theorem dX7_announceChange_78 : decode cX7_announceChange 78 = .ok (.isub, 1) := by decide +kernel
theorem dX7_announceChange_79 : decode cX7_announceChange 79 = .ok (.istore 5, 2) := by decide +kernel
theorem dX7_announceChange_81 : decode cX7_announceChange 81 = .ok (.iload 5, 2) := by decide +kernel
theorem dX7_announceChange_83 : decode cX7_announceChange 83 = .ok (.ifCond .lt 75, 3) := by decide +kernel
theorem dX7_announceChange_86 : decode cX7_announceChange 86 = .ok (.iload 5, 2) := by decide +kernel
theorem dX7_announceChange_88 : decode cX7_announceChange 88 = .ok (.invokestatic 100, 3) := by decide +kernel
theorem dX7_announceChange_91 : decode cX7_announceChange 91 = .ok (.istore 6, 2) := by decide +kernel
theorem dX7_announceChange_93 : decode cX7_announceChange 93 = .ok (.aload_n 0, 1) := by decide +kernel
theorem dX7_announceChange_94 : decode cX7_announceChange 94 = .ok (.getfield 7, 3) := by decide +kernel
theorem dX7_announceChange_97 : decode cX7_announceChange 97 = .ok (.iload 6, 2) := by decide +kernel
theorem dX7_announceChange_99 : decode cX7_announceChange 99 = .ok (.iaload, 1) := by decide +kernel
theorem dX7_announceChange_100 : decode cX7_announceChange 100 = .ok (.ifCond .le 16, 3) := by decide +kernel
theorem dX7_announceChange_103 : decode cX7_announceChange 103 = .ok (.aload_n 0, 1) := by decide +kernel
theorem dX7_announceChange_104 : decode cX7_announceChange 104 = .ok (.getfield 7, 3) := by decide +kernel
theorem dX7_announceChange_107 : decode cX7_announceChange 107 = .ok (.iload 6, 2) := by decide +kernel
theorem dX7_announceChange_109 : decode cX7_announceChange 109 = .ok (.iconst 1, 1) := by decide +kernel
theorem dX7_announceChange_110 : decode cX7_announceChange 110 = .ok (.iadd, 1) := by decide +kernel
theorem dX7_announceChange_111 : decode cX7_announceChange 111 = .ok (.iaload, 1) := by decide +kernel
theorem dX7_announceChange_112 : decode cX7_announceChange 112 = .ok (.iload_n 3, 1) := by decide +kernel
theorem dX7_announceChange_113 : decode cX7_announceChange 113 = .ok (.if_icmp .eq 33, 3) := by decide +kernel
theorem dX7_announceChange_116 : decode cX7_announceChange 116 = .ok (.iload 4, 2) := by decide +kernel
theorem dX7_announceChange_118 : decode cX7_announceChange 118 = .ok (.iconst 1, 1) := by decide +kernel
theorem dX7_announceChange_119 : decode cX7_announceChange 119 = .ok (.if_icmp .ne 33, 3) := by decide +kernel
theorem dX7_announceChange_122 : decode cX7_announceChange 122 = .ok (.aload_n 0, 1) := by decide +kernel
theorem dX7_announceChange_123 : decode cX7_announceChange 123 = .ok (.getfield 7, 3) := by decide +kernel
theorem dX7_announceChange_126 : decode cX7_announceChange 126 = .ok (.iload 6, 2) := by decide +kernel
theorem dX7_announceChange_128 : decode cX7_announceChange 128 = .ok (.iaload, 1) := by decide +kernel
theorem dX7_announceChange_129 : decode cX7_announceChange 129 = .ok (.iconst 2, 1) := by decide +kernel
theorem dX7_announceChange_130 : decode cX7_announceChange 130 = .ok (.if_icmp .ne 22, 3) := by decide +kernel
theorem dX7_announceChange_133 : decode cX7_announceChange 133 = .ok (.aload_n 0, 1) := by decide +kernel
theorem dX7_announceChange_134 : decode cX7_announceChange 134 = .ok (.getfield 7, 3) := by decide +kernel
theorem dX7_announceChange_137 : decode cX7_announceChange 137 = .ok (.iload 6, 2) := by decide +kernel
theorem dX7_announceChange_139 : decode cX7_announceChange 139 = .ok (.iconst 2, 1) := by decide +kernel
theorem dX7_announceChange_140 : decode cX7_announceChange 140 = .ok (.iadd, 1) := by decide +kernel
theorem dX7_announceChange_141 : decode cX7_announceChange 141 = .ok (.iaload, 1) := by decide +kernel
theorem dX7_announceChange_142 : decode cX7_announceChange 142 = .ok (.iload_n 2, 1) := by decide +kernel
theorem dX7_announceChange_143 : decode cX7_announceChange 143 = .ok (.if_icmp .ne 9, 3) := by decide +kernel
theorem dX7_announceChange_146 : decode cX7_announceChange 146 = .ok (.aload_n 0, 1) := by decide +kernel
theorem dX7_announceChange_147 : decode cX7_announceChange 147 = .ok (.iload 5, 2) := by decide +kernel
theorem dX7_announceChange_149 : decode cX7_announceChange 149 = .ok (.invokevirtual 108, 3) := by decide +kernel
theorem dX7_announceChange_152 : decode cX7_announceChange 152 = .ok (.iinc 5 (-1), 3) := by decide +kernel
theorem dX7_announceChange_155 : decode cX7_announceChange 155 = .ok (.goto (-74), 3) := by decide +kernel
theorem dX7_announceChange_158 : decode cX7_announceChange 158 = .ok (.aload_n 0, 1) := by decide +kernel
theorem dX7_announceChange_159 : decode cX7_announceChange 159 = .ok (.iload 4, 2) := by decide +kernel
theorem dX7_announceChange_161 : decode cX7_announceChange 161 = .ok (.iload_n 3, 1) := by decide +kernel
theorem dX7_announceChange_162 : decode cX7_announceChange 162 = .ok (.iload_n 2, 1) := by decide +kernel
theorem dX7_announceChange_163 : decode cX7_announceChange 163 = .ok (.invokevirtual 120, 3) := by decide +kernel
theorem dX7_announceChange_166 : decode cX7_announceChange 166 = .ok (.return_, 1) := by decide +kernel
abbrev rmX7_announceChange : Room := { frames := 9, cells := 0, slots := 0, locals := 220 }
noncomputable def fX7_announceChange_158 (n : Nat) (Sh : Sp) (a0 : Nat) (a1 : Int32) (M : Mm) (v2 : Int32) (v3 : Int32) (v4 : Int32) : Option Mm :=
  (fX7_queues n Sh M a0 v4 v3 v2).bind fun r1 =>
  some r1
noncomputable def fX7_announceChange_152 (n : Nat) (Sh : Sp) (a0 : Nat) (a1 : Int32) (M : Mm) (v2 : Int32) (v3 : Int32) (v4 : Int32) (v5 : Int32) : Option ((Int32 × Mm) ⊕ Mm) :=
  some (Sum.inl ((v5 + (-1)), M))
noncomputable def fX7_announceChange_146 (n : Nat) (Sh : Sp) (a0 : Nat) (a1 : Int32) (M : Mm) (v2 : Int32) (v3 : Int32) (v4 : Int32) (v5 : Int32) : Option ((Int32 × Mm) ⊕ Mm) :=
  (fX7_drop n Sh M a0 v5).bind fun r2 =>
  fX7_announceChange_152 n Sh a0 a1 r2 v2 v3 v4 v5
noncomputable def fX7_announceChange_116 (n : Nat) (Sh : Sp) (a0 : Nat) (a1 : Int32) (M : Mm) (v2 : Int32) (v3 : Int32) (v4 : Int32) (v5 : Int32) (v6 : Int32) : Option ((Int32 × Mm) ⊕ Mm) :=
  if v4 = 1 then
    tF M a0 0 fun b3 =>
    aI Sh M b3 0 v6 fun x4 =>
    if x4 = 2 then
      tF M a0 0 fun b5 =>
      aI Sh M b5 0 (v6 + 2) fun x6 =>
      if x6 = v2 then
        fX7_announceChange_146 n Sh a0 a1 M v2 v3 v4 v5
      else
        fX7_announceChange_152 n Sh a0 a1 M v2 v3 v4 v5
    else
      fX7_announceChange_152 n Sh a0 a1 M v2 v3 v4 v5
  else
    fX7_announceChange_152 n Sh a0 a1 M v2 v3 v4 v5
noncomputable def fX7_announceChange_81b (n : Nat) (Sh : Sp) (a0 : Nat) (a1 : Int32) (M : Mm) (v2 : Int32) (v3 : Int32) (v4 : Int32) (v5 : Int32) : Option ((Int32 × Mm) ⊕ Mm) :=
  if v5 < 0 then
    (fX7_announceChange_158 n Sh a0 a1 M v2 v3 v4).map Sum.inr
  else
    (fX7_startOf n Sh M v5).bind fun r7 =>
    tF M a0 0 fun b8 =>
    aI Sh M b8 0 r7 fun x9 =>
    if x9 ≤ 0 then
      fX7_announceChange_116 n Sh a0 a1 M v2 v3 v4 v5 r7
    else
      tF M a0 0 fun b10 =>
      aI Sh M b10 0 (r7 + 1) fun x11 =>
      if x11 = v3 then
        fX7_announceChange_146 n Sh a0 a1 M v2 v3 v4 v5
      else
        fX7_announceChange_116 n Sh a0 a1 M v2 v3 v4 v5 r7
noncomputable def fX7_announceChange_81 (n : Nat) (Sh : Sp) (a0 : Nat) (a1 : Int32) (M : Mm) (v2 : Int32) (v3 : Int32) (v4 : Int32) (v5 : Int32) : Option Mm :=
  iter n (fun s => fX7_announceChange_81b n Sh a0 a1 s.2 v2 v3 v4 s.1) (v5, M)
noncomputable def fX7_announceChange_67 (n : Nat) (Sh : Sp) (a0 : Nat) (a1 : Int32) (M : Mm) (v2 : Int32) (v3 : Int32) (t0 : Int32) : Option Mm :=
  tF M a0 0 fun b12 =>
  aI Sh M b12 0 720 fun x13 =>
  fX7_announceChange_81 n Sh a0 a1 M v2 v3 t0 (x13 - 1)
noncomputable def fX7_announceChange_36 (n : Nat) (Sh : Sp) (a0 : Nat) (a1 : Int32) (M : Mm) (v2 : Int32) (t0 : Int32) : Option Mm :=
  (fX7_lay n Sh M a0 t0 5).bind fun r14 =>
  tI r14 a0 7 fun x15 =>
  if x15 = 0 then
    some r14
  else
    (fX7_of n Sh r14 a0 v2 8).bind fun r16 =>
    if r16 = 3 then
      fX7_announceChange_67 n Sh a0 a1 r14 v2 t0 1
    else
      fX7_announceChange_67 n Sh a0 a1 r14 v2 t0 2
noncomputable def fX7_announceChange (n : Nat) (Sh : Sp) (M : Mm) (a0 : Nat) (a1 : Int32) : Option Mm :=
  (fX7_regionOf n Sh M a0 a1).bind fun r17 =>
  if r17 = (-1) then
    some M
  else
    (fX7_isShown n Sh M a0 a1).bind fun r18 =>
    if r18 = 0 then
      some M
    else
      (fX7_of n Sh M a0 r17 9).bind fun r19 =>
      if r19 = 1 then
        fX7_announceChange_36 n Sh a0 a1 M r17 r17
      else
        fX7_announceChange_36 n Sh a0 a1 M r17 a1
set_option maxRecDepth 100000 in
set_option maxHeartbeats 4000000 in
theorem kX7_announceChange {l : Launch} {G : Gt} {n : Nat} {Sh : Sp} {M : Mm} {a0 : Nat} {a1 : Int32} (hT : Sh a0 = some (.inl 7)) {r : Mm} (h : fX7_announceChange n Sh M a0 a1 = some r) : Ct l yX7_announceChange cX7_announceChange 7 none rmX7_announceChange G Sh M [.ref a0, .int a1] none r := by
  refine Ct.of (by decide) (Nat.le_of_ble_eq_true rfl) ?_
  intro p e s m args below meth c ls C hK hX hP hS hb hlk hr hl
  replace hl : lv_has ls 7 [(0, .ref a0), (1, .int a1)] := hl
  have J158 : ∀ (M : Mm) (v2 : Int32) (v3 : Int32) (v4 : Int32) (H : Heap) (locs : List Loc) (ls : Array Slot), HM G Sh M H → SS G s s.heap.size H locs → lv_has ls 7 [(0, .ref a0), (1, .int a1), (2, .int v2), (3, .int v3), (4, .int v4)] → fX7_announceChange_158 n Sh a0 a1 M v2 v3 v4 = some r → W p l e rmX7_announceChange s m args below meth c H locs 0 0 (MQ below (QG G Sh r none) args s rmX7_announceChange.cells rmX7_announceChange.slots (AA G)) (F0 m 158 ls []) := by
    intro M v2 v3 v4 H locs ls hP hS hl h
    unfold fX7_announceChange_158 at h
    refine lv_aload_n C.1 C.2.1 dX7_announceChange_158 rfl (lv_at hl 0 rfl) ?_
    refine lv_iload C.1 C.2.1 dX7_announceChange_159 (lv_at hl 4 rfl) ?_
    refine lv_iload_n C.1 C.2.1 dX7_announceChange_161 rfl (lv_at hl 3 rfl) ?_
    refine lv_iload_n C.1 C.2.1 dX7_announceChange_162 rfl (lv_at hl 2 rfl) ?_
    obtain ⟨r1, hc, h⟩ := bS h
    refine r_V0 C hK hX hb hP hS hl.1 (kX7_queues (hT) hc) hT cl_7 wd_1346 mo_X7_queues wd_1348 wd_53 ⟨Nat.le_of_ble_eq_true rfl, Nat.le_of_ble_eq_true rfl⟩ ⟨Nat.le_of_ble_eq_true rfl, Nat.le_of_ble_eq_true rfl⟩ rfl (rest := []) rfl (Nat.le_of_ble_eq_true rfl) dX7_announceChange_163 (fun H locs hP hS => ?_)
    have e := Option.some.inj h
    exact q_v C hlk hP hS hr rfl e.symm dX7_announceChange_166
  have J81 : ∀ (v2 : Int32) (v3 : Int32) (v4 : Int32), ∀ (k : Nat) (v5 : Int32) (M : Mm) (H : Heap) (locs : List Loc) (ls : Array Slot), HM G Sh M H → SS G s s.heap.size H locs → lv_has ls 7 [(0, .ref a0), (1, .int a1), (2, .int v2), (3, .int v3), (4, .int v4), (5, .int v5)] → iter k (fun s => fX7_announceChange_81b n Sh a0 a1 s.2 v2 v3 v4 s.1) (v5, M) = some r → W p l e rmX7_announceChange s m args below meth c H locs 0 0 (MQ below (QG G Sh r none) args s rmX7_announceChange.cells rmX7_announceChange.slots (AA G)) (F0 m 81 ls []) := by
    intro v2 v3 v4 k
    induction k with
    | zero => intro v5 M H locs ls hP hS hl h; exact (iter_0 h).elim
    | succ k ih1 =>
      intro v5 M H locs ls hP hS hl h
      obtain ⟨z1, h, hz1⟩ := iter_some h
      replace h : fX7_announceChange_81b n Sh a0 a1 M v2 v3 v4 v5 = some z1 := h
      have J152 : ∀ (M : Mm) (v5 : Int32) (H : Heap) (locs : List Loc) (ls : Array Slot), HM G Sh M H → SS G s s.heap.size H locs → lv_has ls 7 [(0, .ref a0), (1, .int a1), (2, .int v2), (3, .int v3), (4, .int v4), (5, .int v5)] → fX7_announceChange_152 n Sh a0 a1 M v2 v3 v4 v5 = some z1 → W p l e rmX7_announceChange s m args below meth c H locs 0 0 (MQ below (QG G Sh r none) args s rmX7_announceChange.cells rmX7_announceChange.slots (AA G)) (F0 m 152 ls []) := by
        intro M v5 H locs ls hP hS hl h
        unfold fX7_announceChange_152 at h
        refine lv_iinc (v := (v5 + (-1))) (lv' := [(5, .int (v5 + (-1))), (0, .ref a0), (1, .int a1), (2, .int v2), (3, .int v3), (4, .int v4)]) C.1 C.2.1 dX7_announceChange_152 hl (k := 5) rfl rfl (by decide) rfl (fun ls hl => ?_)
        refine lv_goto (tgt := 81) C.1 C.2.1 dX7_announceChange_155 (by decide) ?_
        have e := Option.some.inj h
        rw [← e] at hz1
        exact ih1 ((v5 + (-1))) M _ _ _ hP hS (lv_sub hl [1, 2, 3, 4, 5, 0] rfl) (itK_inl hz1)
      have J146 : ∀ (M : Mm) (v5 : Int32) (H : Heap) (locs : List Loc) (ls : Array Slot), HM G Sh M H → SS G s s.heap.size H locs → lv_has ls 7 [(0, .ref a0), (1, .int a1), (2, .int v2), (3, .int v3), (4, .int v4), (5, .int v5)] → fX7_announceChange_146 n Sh a0 a1 M v2 v3 v4 v5 = some z1 → W p l e rmX7_announceChange s m args below meth c H locs 0 0 (MQ below (QG G Sh r none) args s rmX7_announceChange.cells rmX7_announceChange.slots (AA G)) (F0 m 146 ls []) := by
        intro M v5 H locs ls hP hS hl h
        unfold fX7_announceChange_146 at h
        refine lv_aload_n C.1 C.2.1 dX7_announceChange_146 rfl (lv_at hl 0 rfl) ?_
        refine lv_iload C.1 C.2.1 dX7_announceChange_147 (lv_at hl 5 rfl) ?_
        obtain ⟨r2, hc, h⟩ := bS h
        refine r_V0 C hK hX hb hP hS hl.1 (kX7_drop (hT) hc) hT cl_7 wd_1240 mo_X7_drop wd_1242 wd_33 ⟨Nat.le_of_ble_eq_true rfl, Nat.le_of_ble_eq_true rfl⟩ ⟨Nat.le_of_ble_eq_true rfl, Nat.le_of_ble_eq_true rfl⟩ rfl (rest := []) rfl (Nat.le_of_ble_eq_true rfl) dX7_announceChange_149 (fun H locs hP hS => ?_)
        exact J152 (r2) (v5) _ _ _ hP hS (lv_sub hl [0, 1, 2, 3, 4, 5] rfl) h
      have J116 : ∀ (M : Mm) (v5 : Int32) (v6 : Int32) (H : Heap) (locs : List Loc) (ls : Array Slot), HM G Sh M H → SS G s s.heap.size H locs → lv_has ls 7 [(0, .ref a0), (1, .int a1), (2, .int v2), (3, .int v3), (4, .int v4), (5, .int v5), (6, .int v6)] → fX7_announceChange_116 n Sh a0 a1 M v2 v3 v4 v5 v6 = some z1 → W p l e rmX7_announceChange s m args below meth c H locs 0 0 (MQ below (QG G Sh r none) args s rmX7_announceChange.cells rmX7_announceChange.slots (AA G)) (F0 m 116 ls []) := by
        intro M v5 v6 H locs ls hP hS hl h
        unfold fX7_announceChange_116 at h
        refine lv_iload C.1 C.2.1 dX7_announceChange_116 (lv_at hl 4 rfl) ?_
        refine lv_iconst (v := 1) C.1 C.2.1 dX7_announceChange_118 (by decide) ?_
        refine b_ine (tgt := 152) C dX7_announceChange_119 (by decide) h (fun h => ?_) (fun h => ?_)
        · refine lv_aload_n C.1 C.2.1 dX7_announceChange_122 rfl (lv_at hl 0 rfl) ?_
          refine r_tF C hK hP hT cl_7 (k := 0) (by decide) wd_1144 rfl dX7_announceChange_123 h (fun b3 h => ?_)
          refine lv_iload C.1 C.2.1 dX7_announceChange_126 (lv_at hl 6 rfl) ?_
          refine r_aI C hK hP dX7_announceChange_128 h (fun x4 h => ?_)
          refine lv_iconst (v := 2) C.1 C.2.1 dX7_announceChange_129 (by decide) ?_
          refine b_ine (tgt := 152) C dX7_announceChange_130 (by decide) h (fun h => ?_) (fun h => ?_)
          · refine lv_aload_n C.1 C.2.1 dX7_announceChange_133 rfl (lv_at hl 0 rfl) ?_
            refine r_tF C hK hP hT cl_7 (k := 0) (by decide) wd_1144 rfl dX7_announceChange_134 h (fun b5 h => ?_)
            refine lv_iload C.1 C.2.1 dX7_announceChange_137 (lv_at hl 6 rfl) ?_
            refine lv_iconst (v := 2) C.1 C.2.1 dX7_announceChange_139 (by decide) ?_
            refine lv_iadd C.1 C.2.1 dX7_announceChange_140 ?_
            refine r_aI C hK hP dX7_announceChange_141 h (fun x6 h => ?_)
            refine lv_iload_n C.1 C.2.1 dX7_announceChange_142 rfl (lv_at hl 2 rfl) ?_
            refine b_ine (tgt := 152) C dX7_announceChange_143 (by decide) h (fun h => ?_) (fun h => ?_)
            · exact J146 (M) (v5) _ _ _ hP hS (lv_sub hl [0, 1, 2, 3, 4, 5] rfl) h
            · exact J152 (M) (v5) _ _ _ hP hS (lv_sub hl [0, 1, 2, 3, 4, 5] rfl) h
          · exact J152 (M) (v5) _ _ _ hP hS (lv_sub hl [0, 1, 2, 3, 4, 5] rfl) h
        · exact J152 (M) (v5) _ _ _ hP hS (lv_sub hl [0, 1, 2, 3, 4, 5] rfl) h
      unfold fX7_announceChange_81b at h
      refine lv_iload C.1 C.2.1 dX7_announceChange_81 (lv_at hl 5 rfl) ?_
      refine b_lt (tgt := 158) C dX7_announceChange_83 (by decide) h (fun h => ?_) (fun h => ?_)
      · obtain ⟨w1, h, e⟩ := mS h
        rw [← e] at hz1
        replace e := itK_inr hz1
        rw [e] at h
        exact J158 (M) (v2) (v3) (v4) _ _ _ hP hS (lv_sub hl [0, 1, 2, 3, 4] rfl) h
      · refine lv_iload C.1 C.2.1 dX7_announceChange_86 (lv_at hl 5 rfl) ?_
        obtain ⟨r7, hc, h⟩ := bS h
        refine r_S1 C hK hX hb hP hS hl.1 (kX7_startOf hc) wd_1237 mo_X7_startOf wd_1238 ⟨Nat.le_of_ble_eq_true rfl, Nat.le_of_ble_eq_true rfl⟩ ⟨Nat.le_of_ble_eq_true rfl, Nat.le_of_ble_eq_true rfl⟩ rfl (rest := []) rfl (Nat.le_of_ble_eq_true rfl) dX7_announceChange_88 (fun H locs hP hS => ?_)
        refine lv_istore (lv' := [(6, .int r7), (0, .ref a0), (1, .int a1), (2, .int v2), (3, .int v3), (4, .int v4), (5, .int v5)]) C.1 C.2.1 dX7_announceChange_91 hl (by decide) rfl (fun ls hl => ?_)
        refine lv_aload_n C.1 C.2.1 dX7_announceChange_93 rfl (lv_at hl 1 rfl) ?_
        refine r_tF C hK hP hT cl_7 (k := 0) (by decide) wd_1144 rfl dX7_announceChange_94 h (fun b8 h => ?_)
        refine lv_iload C.1 C.2.1 dX7_announceChange_97 (lv_at hl 0 rfl) ?_
        refine r_aI C hK hP dX7_announceChange_99 h (fun x9 h => ?_)
        refine b_le (tgt := 116) C dX7_announceChange_100 (by decide) h (fun h => ?_) (fun h => ?_)
        · exact J116 (M) (v5) (r7) _ _ _ hP hS (lv_sub hl [1, 2, 3, 4, 5, 6, 0] rfl) h
        · refine lv_aload_n C.1 C.2.1 dX7_announceChange_103 rfl (lv_at hl 1 rfl) ?_
          refine r_tF C hK hP hT cl_7 (k := 0) (by decide) wd_1144 rfl dX7_announceChange_104 h (fun b10 h => ?_)
          refine lv_iload C.1 C.2.1 dX7_announceChange_107 (lv_at hl 0 rfl) ?_
          refine lv_iconst (v := 1) C.1 C.2.1 dX7_announceChange_109 (by decide) ?_
          refine lv_iadd C.1 C.2.1 dX7_announceChange_110 ?_
          refine r_aI C hK hP dX7_announceChange_111 h (fun x11 h => ?_)
          refine lv_iload_n C.1 C.2.1 dX7_announceChange_112 rfl (lv_at hl 4 rfl) ?_
          refine b_ieq (tgt := 146) C dX7_announceChange_113 (by decide) h (fun h => ?_) (fun h => ?_)
          · exact J146 (M) (v5) _ _ _ hP hS (lv_sub hl [1, 2, 3, 4, 5, 6] rfl) h
          · exact J116 (M) (v5) (r7) _ _ _ hP hS (lv_sub hl [1, 2, 3, 4, 5, 6, 0] rfl) h
  have J67 : ∀ (M : Mm) (v2 : Int32) (v3 : Int32) (t0 : Int32) (H : Heap) (locs : List Loc) (ls : Array Slot), HM G Sh M H → SS G s s.heap.size H locs → lv_has ls 7 [(0, .ref a0), (1, .int a1), (2, .int v2), (3, .int v3)] → fX7_announceChange_67 n Sh a0 a1 M v2 v3 t0 = some r → W p l e rmX7_announceChange s m args below meth c H locs 0 0 (MQ below (QG G Sh r none) args s rmX7_announceChange.cells rmX7_announceChange.slots (AA G)) (F0 m 67 ls [.int t0]) := by
    intro M v2 v3 t0 H locs ls hP hS hl h
    unfold fX7_announceChange_67 at h
    refine lv_istore (lv' := [(4, .int t0), (0, .ref a0), (1, .int a1), (2, .int v2), (3, .int v3)]) C.1 C.2.1 dX7_announceChange_67 hl (by decide) rfl (fun ls hl => ?_)
    refine lv_aload_n C.1 C.2.1 dX7_announceChange_69 rfl (lv_at hl 1 rfl) ?_
    refine r_tF C hK hP hT cl_7 (k := 0) (by decide) wd_1144 rfl dX7_announceChange_70 h (fun b12 h => ?_)
    refine lv_sipush (v := 720) C.1 C.2.1 dX7_announceChange_73 (by decide) ?_
    refine r_aI C hK hP dX7_announceChange_76 h (fun x13 h => ?_)
    refine lv_iconst (v := 1) C.1 C.2.1 dX7_announceChange_77 (by decide) ?_
    refine lv_isub C.1 C.2.1 dX7_announceChange_78 ?_
    refine lv_istore (lv' := [(5, .int (x13 - 1)), (4, .int t0), (0, .ref a0), (1, .int a1), (2, .int v2), (3, .int v3)]) C.1 C.2.1 dX7_announceChange_79 hl (by decide) rfl (fun ls hl => ?_)
    exact J81 (v2) (v3) (t0) n ((x13 - 1)) M _ _ _ hP hS (lv_sub hl [2, 3, 4, 5, 1, 0] rfl) h
  have J36 : ∀ (M : Mm) (v2 : Int32) (t0 : Int32) (H : Heap) (locs : List Loc) (ls : Array Slot), HM G Sh M H → SS G s s.heap.size H locs → lv_has ls 7 [(0, .ref a0), (1, .int a1), (2, .int v2)] → fX7_announceChange_36 n Sh a0 a1 M v2 t0 = some r → W p l e rmX7_announceChange s m args below meth c H locs 0 0 (MQ below (QG G Sh r none) args s rmX7_announceChange.cells rmX7_announceChange.slots (AA G)) (F0 m 36 ls [.int t0]) := by
    intro M v2 t0 H locs ls hP hS hl h
    unfold fX7_announceChange_36 at h
    refine lv_istore_n (lv' := [(3, .int t0), (0, .ref a0), (1, .int a1), (2, .int v2)]) C.1 C.2.1 dX7_announceChange_36 rfl hl (by decide) rfl (fun ls hl => ?_)
    refine lv_aload_n C.1 C.2.1 dX7_announceChange_37 rfl (lv_at hl 1 rfl) ?_
    refine lv_iload_n C.1 C.2.1 dX7_announceChange_38 rfl (lv_at hl 0 rfl) ?_
    refine lv_iconst (v := 5) C.1 C.2.1 dX7_announceChange_39 (by decide) ?_
    obtain ⟨r14, hc, h⟩ := bS h
    refine r_V0 C hK hX hb hP hS hl.1 (kX7_lay (hT) hc) hT cl_7 wd_1291 mo_X7_lay wd_1293 wd_40 ⟨Nat.le_of_ble_eq_true rfl, Nat.le_of_ble_eq_true rfl⟩ ⟨Nat.le_of_ble_eq_true rfl, Nat.le_of_ble_eq_true rfl⟩ rfl (rest := []) rfl (Nat.le_of_ble_eq_true rfl) dX7_announceChange_40 (fun H locs hP hS => ?_)
    refine lv_aload_n C.1 C.2.1 dX7_announceChange_43 rfl (lv_at hl 1 rfl) ?_
    refine r_tI C hK hP hT cl_7 (k := 7) (by decide) wd_1151 rfl dX7_announceChange_44 h (fun x15 h => ?_)
    refine b_ne (tgt := 51) C dX7_announceChange_47 (by decide) h (fun h => ?_) (fun h => ?_)
    · have e := Option.some.inj h
      exact q_v C hlk hP hS hr rfl e.symm dX7_announceChange_50
    · refine lv_aload_n C.1 C.2.1 dX7_announceChange_51 rfl (lv_at hl 1 rfl) ?_
      refine lv_iload_n C.1 C.2.1 dX7_announceChange_52 rfl (lv_at hl 3 rfl) ?_
      refine lv_bipush (v := 8) C.1 C.2.1 dX7_announceChange_53 (by decide) ?_
      obtain ⟨r16, hc, h⟩ := bS h
      refine r_V1 C hK hX hb hP hS hl.1 (kX7_of (hT) hc) hT cl_7 wd_1197 mo_X7_of wd_1199 wd_24 ⟨Nat.le_of_ble_eq_true rfl, Nat.le_of_ble_eq_true rfl⟩ ⟨Nat.le_of_ble_eq_true rfl, Nat.le_of_ble_eq_true rfl⟩ rfl (rest := []) rfl (Nat.le_of_ble_eq_true rfl) dX7_announceChange_55 (fun H locs hP hS => ?_)
      refine lv_iconst (v := 3) C.1 C.2.1 dX7_announceChange_58 (by decide) ?_
      refine b_ine (tgt := 66) C dX7_announceChange_59 (by decide) h (fun h => ?_) (fun h => ?_)
      · refine lv_iconst (v := 1) C.1 C.2.1 dX7_announceChange_62 (by decide) ?_
        refine lv_goto (tgt := 67) C.1 C.2.1 dX7_announceChange_63 (by decide) ?_
        exact J67 (r14) (v2) (t0) (1) _ _ _ hP hS (lv_sub hl [1, 2, 3, 0] rfl) h
      · refine lv_iconst (v := 2) C.1 C.2.1 dX7_announceChange_66 (by decide) ?_
        exact J67 (r14) (v2) (t0) (2) _ _ _ hP hS (lv_sub hl [1, 2, 3, 0] rfl) h
  unfold fX7_announceChange at h
  refine lv_aload_n C.1 C.2.1 dX7_announceChange_0 rfl (lv_at hl 0 rfl) ?_
  refine lv_iload_n C.1 C.2.1 dX7_announceChange_1 rfl (lv_at hl 1 rfl) ?_
  obtain ⟨r17, hc, h⟩ := bS h
  refine r_V1 C hK hX hb hP hS hl.1 (kX7_regionOf (hT) hc) hT cl_7 wd_1287 mo_X7_regionOf wd_1289 wd_39 ⟨Nat.le_of_ble_eq_true rfl, Nat.le_of_ble_eq_true rfl⟩ ⟨Nat.le_of_ble_eq_true rfl, Nat.le_of_ble_eq_true rfl⟩ rfl (rest := []) rfl (Nat.le_of_ble_eq_true rfl) dX7_announceChange_2 (fun H locs hP hS => ?_)
  refine lv_istore_n (lv' := [(2, .int r17), (0, .ref a0), (1, .int a1)]) C.1 C.2.1 dX7_announceChange_5 rfl hl (by decide) rfl (fun ls hl => ?_)
  refine lv_iload_n C.1 C.2.1 dX7_announceChange_6 rfl (lv_at hl 0 rfl) ?_
  refine lv_iconst (v := (-1)) C.1 C.2.1 dX7_announceChange_7 (by decide) ?_
  refine b_ieq (tgt := 19) C dX7_announceChange_8 (by decide) h (fun h => ?_) (fun h => ?_)
  · have e := Option.some.inj h
    exact q_v C hlk hP hS hr rfl e.symm dX7_announceChange_19
  · refine lv_aload_n C.1 C.2.1 dX7_announceChange_11 rfl (lv_at hl 1 rfl) ?_
    refine lv_iload_n C.1 C.2.1 dX7_announceChange_12 rfl (lv_at hl 2 rfl) ?_
    obtain ⟨r18, hc, h⟩ := bS h
    refine r_V1 C hK hX hb hP hS hl.1 (kX7_isShown (hT) hc) hT cl_7 wd_1264 mo_X7_isShown wd_1266 wd_36 ⟨Nat.le_of_ble_eq_true rfl, Nat.le_of_ble_eq_true rfl⟩ ⟨Nat.le_of_ble_eq_true rfl, Nat.le_of_ble_eq_true rfl⟩ rfl (rest := []) rfl (Nat.le_of_ble_eq_true rfl) dX7_announceChange_13 (fun H locs hP hS => ?_)
    refine b_ne (tgt := 20) C dX7_announceChange_16 (by decide) h (fun h => ?_) (fun h => ?_)
    · have e := Option.some.inj h
      exact q_v C hlk hP hS hr rfl e.symm dX7_announceChange_19
    · refine lv_aload_n C.1 C.2.1 dX7_announceChange_20 rfl (lv_at hl 1 rfl) ?_
      refine lv_iload_n C.1 C.2.1 dX7_announceChange_21 rfl (lv_at hl 0 rfl) ?_
      refine lv_bipush (v := 9) C.1 C.2.1 dX7_announceChange_22 (by decide) ?_
      obtain ⟨r19, hc, h⟩ := bS h
      refine r_V1 C hK hX hb hP hS hl.1 (kX7_of (hT) hc) hT cl_7 wd_1197 mo_X7_of wd_1199 wd_24 ⟨Nat.le_of_ble_eq_true rfl, Nat.le_of_ble_eq_true rfl⟩ ⟨Nat.le_of_ble_eq_true rfl, Nat.le_of_ble_eq_true rfl⟩ rfl (rest := []) rfl (Nat.le_of_ble_eq_true rfl) dX7_announceChange_24 (fun H locs hP hS => ?_)
      refine lv_iconst (v := 1) C.1 C.2.1 dX7_announceChange_27 (by decide) ?_
      refine b_ine (tgt := 35) C dX7_announceChange_28 (by decide) h (fun h => ?_) (fun h => ?_)
      · refine lv_iload_n C.1 C.2.1 dX7_announceChange_31 rfl (lv_at hl 0 rfl) ?_
        refine lv_goto (tgt := 36) C.1 C.2.1 dX7_announceChange_32 (by decide) ?_
        exact J36 (M) (r17) (r17) _ _ _ hP hS (lv_sub hl [1, 2, 0] rfl) h
      · refine lv_iload_n C.1 C.2.1 dX7_announceChange_35 rfl (lv_at hl 2 rfl) ?_
        exact J36 (M) (r17) (a1) _ _ _ hP hS (lv_sub hl [1, 2, 0] rfl) h
theorem dX7_announceFocus_0 : decode cX7_announceFocus 0 = .ok (.aload_n 0, 1) := by decide +kernel
theorem dX7_announceFocus_1 : decode cX7_announceFocus 1 = .ok (.getfield 7, 3) := by decide +kernel
theorem dX7_announceFocus_4 : decode cX7_announceFocus 4 = .ok (.sipush 720, 3) := by decide +kernel
theorem dX7_announceFocus_7 : decode cX7_announceFocus 7 = .ok (.iaload, 1) := by decide +kernel
theorem dX7_announceFocus_8 : decode cX7_announceFocus 8 = .ok (.iconst 1, 1) := by decide +kernel
theorem dX7_announceFocus_9 : decode cX7_announceFocus 9 = .ok (.isub, 1) := by decide +kernel
theorem dX7_announceFocus_10 : decode cX7_announceFocus 10 = .ok (.istore_n 2, 1) := by decide +kernel
theorem dX7_announceFocus_11 : decode cX7_announceFocus 11 = .ok (.iload_n 2, 1) := by decide +kernel
theorem dX7_announceFocus_12 : decode cX7_announceFocus 12 = .ok (.ifCond .lt 26, 3) := by decide +kernel
theorem dX7_announceFocus_15 : decode cX7_announceFocus 15 = .ok (.aload_n 0, 1) := by decide +kernel
theorem dX7_announceFocus_16 : decode cX7_announceFocus 16 = .ok (.getfield 7, 3) := by decide +kernel
theorem dX7_announceFocus_19 : decode cX7_announceFocus 19 = .ok (.iload_n 2, 1) := by decide +kernel
theorem dX7_announceFocus_20 : decode cX7_announceFocus 20 = .ok (.invokestatic 100, 3) := by decide +kernel
theorem dX7_announceFocus_23 : decode cX7_announceFocus 23 = .ok (.iaload, 1) := by decide +kernel
theorem dX7_announceFocus_24 : decode cX7_announceFocus 24 = .ok (.ifCond .ne 8, 3) := by decide +kernel
theorem dX7_announceFocus_27 : decode cX7_announceFocus 27 = .ok (.aload_n 0, 1) := by decide +kernel
theorem dX7_announceFocus_28 : decode cX7_announceFocus 28 = .ok (.iload_n 2, 1) := by decide +kernel
theorem dX7_announceFocus_29 : decode cX7_announceFocus 29 = .ok (.invokevirtual 108, 3) := by decide +kernel
theorem dX7_announceFocus_32 : decode cX7_announceFocus 32 = .ok (.iinc 2 (-1), 3) := by decide +kernel
theorem dX7_announceFocus_35 : decode cX7_announceFocus 35 = .ok (.goto (-24), 3) := by decide +kernel
theorem dX7_announceFocus_38 : decode cX7_announceFocus 38 = .ok (.aload_n 0, 1) := by decide +kernel
theorem dX7_announceFocus_39 : decode cX7_announceFocus 39 = .ok (.iload_n 1, 1) := by decide +kernel
theorem dX7_announceFocus_40 : decode cX7_announceFocus 40 = .ok (.iconst 3, 1) := by decide +kernel
theorem dX7_announceFocus_41 : decode cX7_announceFocus 41 = .ok (.invokevirtual 117, 3) := by decide +kernel
theorem dX7_announceFocus_44 : decode cX7_announceFocus 44 = .ok (.aload_n 0, 1) := by decide +kernel
theorem dX7_announceFocus_45 : decode cX7_announceFocus 45 = .ok (.getfield 58, 3) := by decide +kernel
theorem dX7_announceFocus_48 : decode cX7_announceFocus 48 = .ok (.ifCond .le 10, 3) := by decide +kernel
theorem dX7_announceFocus_51 : decode cX7_announceFocus 51 = .ok (.aload_n 0, 1) := by decide +kernel
theorem dX7_announceFocus_52 : decode cX7_announceFocus 52 = .ok (.iconst 0, 1) := by decide +kernel
theorem dX7_announceFocus_53 : decode cX7_announceFocus 53 = .ok (.iload_n 1, 1) := by decide +kernel
theorem dX7_announceFocus_54 : decode cX7_announceFocus 54 = .ok (.iconst (-1), 1) := by decide +kernel
theorem dX7_announceFocus_55 : decode cX7_announceFocus 55 = .ok (.invokevirtual 120, 3) := by decide +kernel
theorem dX7_announceFocus_58 : decode cX7_announceFocus 58 = .ok (.return_, 1) := by decide +kernel
abbrev rmX7_announceFocus : Room := { frames := 9, cells := 0, slots := 0, locals := 220 }
noncomputable def fX7_announceFocus_38 (n : Nat) (Sh : Sp) (a0 : Nat) (a1 : Int32) (M : Mm) : Option Mm :=
  (fX7_lay n Sh M a0 a1 3).bind fun r1 =>
  tI r1 a0 7 fun x2 =>
  if x2 ≤ 0 then
    some r1
  else
    (fX7_queues n Sh r1 a0 0 a1 (-1)).bind fun r3 =>
    some r3
noncomputable def fX7_announceFocus_32 (n : Nat) (Sh : Sp) (a0 : Nat) (a1 : Int32) (M : Mm) (v2 : Int32) : Option ((Int32 × Mm) ⊕ Mm) :=
  some (Sum.inl ((v2 + (-1)), M))
noncomputable def fX7_announceFocus_11b (n : Nat) (Sh : Sp) (a0 : Nat) (a1 : Int32) (M : Mm) (v2 : Int32) : Option ((Int32 × Mm) ⊕ Mm) :=
  if v2 < 0 then
    (fX7_announceFocus_38 n Sh a0 a1 M).map Sum.inr
  else
    tF M a0 0 fun b4 =>
    (fX7_startOf n Sh M v2).bind fun r5 =>
    aI Sh M b4 0 r5 fun x6 =>
    if x6 = 0 then
      (fX7_drop n Sh M a0 v2).bind fun r7 =>
      fX7_announceFocus_32 n Sh a0 a1 r7 v2
    else
      fX7_announceFocus_32 n Sh a0 a1 M v2
noncomputable def fX7_announceFocus_11 (n : Nat) (Sh : Sp) (a0 : Nat) (a1 : Int32) (M : Mm) (v2 : Int32) : Option Mm :=
  iter n (fun s => fX7_announceFocus_11b n Sh a0 a1 s.2 s.1) (v2, M)
noncomputable def fX7_announceFocus (n : Nat) (Sh : Sp) (M : Mm) (a0 : Nat) (a1 : Int32) : Option Mm :=
  tF M a0 0 fun b8 =>
  aI Sh M b8 0 720 fun x9 =>
  fX7_announceFocus_11 n Sh a0 a1 M (x9 - 1)
set_option maxRecDepth 100000 in
set_option maxHeartbeats 4000000 in
theorem kX7_announceFocus {l : Launch} {G : Gt} {n : Nat} {Sh : Sp} {M : Mm} {a0 : Nat} {a1 : Int32} (hT : Sh a0 = some (.inl 7)) {r : Mm} (h : fX7_announceFocus n Sh M a0 a1 = some r) : Ct l yX7_announceFocus cX7_announceFocus 3 none rmX7_announceFocus G Sh M [.ref a0, .int a1] none r := by
  refine Ct.of (by decide) (Nat.le_of_ble_eq_true rfl) ?_
  intro p e s m args below meth c ls C hK hX hP hS hb hlk hr hl
  replace hl : lv_has ls 3 [(0, .ref a0), (1, .int a1)] := hl
  have J38 : ∀ (M : Mm) (H : Heap) (locs : List Loc) (ls : Array Slot), HM G Sh M H → SS G s s.heap.size H locs → lv_has ls 3 [(0, .ref a0), (1, .int a1)] → fX7_announceFocus_38 n Sh a0 a1 M = some r → W p l e rmX7_announceFocus s m args below meth c H locs 0 0 (MQ below (QG G Sh r none) args s rmX7_announceFocus.cells rmX7_announceFocus.slots (AA G)) (F0 m 38 ls []) := by
    intro M H locs ls hP hS hl h
    unfold fX7_announceFocus_38 at h
    refine lv_aload_n C.1 C.2.1 dX7_announceFocus_38 rfl (lv_at hl 0 rfl) ?_
    refine lv_iload_n C.1 C.2.1 dX7_announceFocus_39 rfl (lv_at hl 1 rfl) ?_
    refine lv_iconst (v := 3) C.1 C.2.1 dX7_announceFocus_40 (by decide) ?_
    obtain ⟨r1, hc, h⟩ := bS h
    refine r_V0 C hK hX hb hP hS hl.1 (kX7_lay (hT) hc) hT cl_7 wd_1291 mo_X7_lay wd_1293 wd_40 ⟨Nat.le_of_ble_eq_true rfl, Nat.le_of_ble_eq_true rfl⟩ ⟨Nat.le_of_ble_eq_true rfl, Nat.le_of_ble_eq_true rfl⟩ rfl (rest := []) rfl (Nat.le_of_ble_eq_true rfl) dX7_announceFocus_41 (fun H locs hP hS => ?_)
    refine lv_aload_n C.1 C.2.1 dX7_announceFocus_44 rfl (lv_at hl 0 rfl) ?_
    refine r_tI C hK hP hT cl_7 (k := 7) (by decide) wd_1151 rfl dX7_announceFocus_45 h (fun x2 h => ?_)
    refine b_le (tgt := 58) C dX7_announceFocus_48 (by decide) h (fun h => ?_) (fun h => ?_)
    · have e := Option.some.inj h
      exact q_v C hlk hP hS hr rfl e.symm dX7_announceFocus_58
    · refine lv_aload_n C.1 C.2.1 dX7_announceFocus_51 rfl (lv_at hl 0 rfl) ?_
      refine lv_iconst (v := 0) C.1 C.2.1 dX7_announceFocus_52 (by decide) ?_
      refine lv_iload_n C.1 C.2.1 dX7_announceFocus_53 rfl (lv_at hl 1 rfl) ?_
      refine lv_iconst (v := (-1)) C.1 C.2.1 dX7_announceFocus_54 (by decide) ?_
      obtain ⟨r3, hc, h⟩ := bS h
      refine r_V0 C hK hX hb hP hS hl.1 (kX7_queues (hT) hc) hT cl_7 wd_1346 mo_X7_queues wd_1348 wd_53 ⟨Nat.le_of_ble_eq_true rfl, Nat.le_of_ble_eq_true rfl⟩ ⟨Nat.le_of_ble_eq_true rfl, Nat.le_of_ble_eq_true rfl⟩ rfl (rest := []) rfl (Nat.le_of_ble_eq_true rfl) dX7_announceFocus_55 (fun H locs hP hS => ?_)
      have e := Option.some.inj h
      exact q_v C hlk hP hS hr rfl e.symm dX7_announceFocus_58
  have J11 : ∀ (k : Nat) (v2 : Int32) (M : Mm) (H : Heap) (locs : List Loc) (ls : Array Slot), HM G Sh M H → SS G s s.heap.size H locs → lv_has ls 3 [(0, .ref a0), (1, .int a1), (2, .int v2)] → iter k (fun s => fX7_announceFocus_11b n Sh a0 a1 s.2 s.1) (v2, M) = some r → W p l e rmX7_announceFocus s m args below meth c H locs 0 0 (MQ below (QG G Sh r none) args s rmX7_announceFocus.cells rmX7_announceFocus.slots (AA G)) (F0 m 11 ls []) := by
    intro k
    induction k with
    | zero => intro v2 M H locs ls hP hS hl h; exact (iter_0 h).elim
    | succ k ih1 =>
      intro v2 M H locs ls hP hS hl h
      obtain ⟨z1, h, hz1⟩ := iter_some h
      replace h : fX7_announceFocus_11b n Sh a0 a1 M v2 = some z1 := h
      have J32 : ∀ (M : Mm) (v2 : Int32) (H : Heap) (locs : List Loc) (ls : Array Slot), HM G Sh M H → SS G s s.heap.size H locs → lv_has ls 3 [(0, .ref a0), (1, .int a1), (2, .int v2)] → fX7_announceFocus_32 n Sh a0 a1 M v2 = some z1 → W p l e rmX7_announceFocus s m args below meth c H locs 0 0 (MQ below (QG G Sh r none) args s rmX7_announceFocus.cells rmX7_announceFocus.slots (AA G)) (F0 m 32 ls []) := by
        intro M v2 H locs ls hP hS hl h
        unfold fX7_announceFocus_32 at h
        refine lv_iinc (v := (v2 + (-1))) (lv' := [(2, .int (v2 + (-1))), (0, .ref a0), (1, .int a1)]) C.1 C.2.1 dX7_announceFocus_32 hl (k := 2) rfl rfl (by decide) rfl (fun ls hl => ?_)
        refine lv_goto (tgt := 11) C.1 C.2.1 dX7_announceFocus_35 (by decide) ?_
        have e := Option.some.inj h
        rw [← e] at hz1
        exact ih1 ((v2 + (-1))) M _ _ _ hP hS (lv_sub hl [1, 2, 0] rfl) (itK_inl hz1)
      unfold fX7_announceFocus_11b at h
      refine lv_iload_n C.1 C.2.1 dX7_announceFocus_11 rfl (lv_at hl 2 rfl) ?_
      refine b_lt (tgt := 38) C dX7_announceFocus_12 (by decide) h (fun h => ?_) (fun h => ?_)
      · obtain ⟨w1, h, e⟩ := mS h
        rw [← e] at hz1
        replace e := itK_inr hz1
        rw [e] at h
        exact J38 (M) _ _ _ hP hS (lv_sub hl [0, 1] rfl) h
      · refine lv_aload_n C.1 C.2.1 dX7_announceFocus_15 rfl (lv_at hl 0 rfl) ?_
        refine r_tF C hK hP hT cl_7 (k := 0) (by decide) wd_1144 rfl dX7_announceFocus_16 h (fun b4 h => ?_)
        refine lv_iload_n C.1 C.2.1 dX7_announceFocus_19 rfl (lv_at hl 2 rfl) ?_
        obtain ⟨r5, hc, h⟩ := bS h
        refine r_S1 C hK hX hb hP hS hl.1 (kX7_startOf hc) wd_1237 mo_X7_startOf wd_1238 ⟨Nat.le_of_ble_eq_true rfl, Nat.le_of_ble_eq_true rfl⟩ ⟨Nat.le_of_ble_eq_true rfl, Nat.le_of_ble_eq_true rfl⟩ rfl (rest := [.ref b4]) rfl (Nat.le_of_ble_eq_true rfl) dX7_announceFocus_20 (fun H locs hP hS => ?_)
        refine r_aI C hK hP dX7_announceFocus_23 h (fun x6 h => ?_)
        refine b_ne (tgt := 32) C dX7_announceFocus_24 (by decide) h (fun h => ?_) (fun h => ?_)
        · refine lv_aload_n C.1 C.2.1 dX7_announceFocus_27 rfl (lv_at hl 0 rfl) ?_
          refine lv_iload_n C.1 C.2.1 dX7_announceFocus_28 rfl (lv_at hl 2 rfl) ?_
          obtain ⟨r7, hc, h⟩ := bS h
          refine r_V0 C hK hX hb hP hS hl.1 (kX7_drop (hT) hc) hT cl_7 wd_1240 mo_X7_drop wd_1242 wd_33 ⟨Nat.le_of_ble_eq_true rfl, Nat.le_of_ble_eq_true rfl⟩ ⟨Nat.le_of_ble_eq_true rfl, Nat.le_of_ble_eq_true rfl⟩ rfl (rest := []) rfl (Nat.le_of_ble_eq_true rfl) dX7_announceFocus_29 (fun H locs hP hS => ?_)
          exact J32 (r7) (v2) _ _ _ hP hS (lv_sub hl [0, 1, 2] rfl) h
        · exact J32 (M) (v2) _ _ _ hP hS (lv_sub hl [0, 1, 2] rfl) h
  unfold fX7_announceFocus at h
  refine lv_aload_n C.1 C.2.1 dX7_announceFocus_0 rfl (lv_at hl 0 rfl) ?_
  refine r_tF C hK hP hT cl_7 (k := 0) (by decide) wd_1144 rfl dX7_announceFocus_1 h (fun b8 h => ?_)
  refine lv_sipush (v := 720) C.1 C.2.1 dX7_announceFocus_4 (by decide) ?_
  refine r_aI C hK hP dX7_announceFocus_7 h (fun x9 h => ?_)
  refine lv_iconst (v := 1) C.1 C.2.1 dX7_announceFocus_8 (by decide) ?_
  refine lv_isub C.1 C.2.1 dX7_announceFocus_9 ?_
  refine lv_istore_n (lv' := [(2, .int (x9 - 1)), (0, .ref a0), (1, .int a1)]) C.1 C.2.1 dX7_announceFocus_10 rfl hl (by decide) rfl (fun ls hl => ?_)
  exact J11  n ((x9 - 1)) M _ _ _ hP hS (lv_sub hl [1, 2, 0] rfl) h
theorem dX7_freeNode_0 : decode cX7_freeNode 0 = .ok (.iconst 0, 1) := by decide +kernel
theorem dX7_freeNode_1 : decode cX7_freeNode 1 = .ok (.istore_n 1, 1) := by decide +kernel
theorem dX7_freeNode_2 : decode cX7_freeNode 2 = .ok (.iload_n 1, 1) := by decide +kernel
theorem dX7_freeNode_3 : decode cX7_freeNode 3 = .ok (.bipush 24, 2) := by decide +kernel
theorem dX7_freeNode_5 : decode cX7_freeNode 5 = .ok (.if_icmp .ge 19, 3) := by decide +kernel
theorem dX7_freeNode_8 : decode cX7_freeNode 8 = .ok (.aload_n 0, 1) := by decide +kernel
theorem dX7_freeNode_9 : decode cX7_freeNode 9 = .ok (.iload_n 1, 1) := by decide +kernel
theorem dX7_freeNode_10 : decode cX7_freeNode 10 = .ok (.iconst 0, 1) := by decide +kernel
theorem dX7_freeNode_11 : decode cX7_freeNode 11 = .ok (.invokevirtual 40, 3) := by decide +kernel
theorem dX7_freeNode_14 : decode cX7_freeNode 14 = .ok (.iconst 1, 1) := by decide +kernel
theorem dX7_freeNode_15 : decode cX7_freeNode 15 = .ok (.if_icmp .ne 9, 3) := by decide +kernel
theorem dX7_freeNode_18 : decode cX7_freeNode 18 = .ok (.iinc 1 1, 3) := by decide +kernel
theorem dX7_freeNode_21 : decode cX7_freeNode 21 = .ok (.goto (-19), 3) := by decide +kernel
theorem dX7_freeNode_24 : decode cX7_freeNode 24 = .ok (.iload_n 1, 1) := by decide +kernel
theorem dX7_freeNode_25 : decode cX7_freeNode 25 = .ok (.ireturn, 1) := by decide +kernel
abbrev rmX7_freeNode : Room := { frames := 2, cells := 0, slots := 0, locals := 62 }
noncomputable def fX7_freeNode_2b (n : Nat) (Sh : Sp) (M : Mm) (a0 : Nat) (v1 : Int32) : Option (Int32 ⊕ Int32) :=
  if v1 < 24 then
    (fX7_of n Sh M a0 v1 0).bind fun r1 =>
    if r1 = 1 then
      some (Sum.inl (v1 + 1))
    else
      some (Sum.inr v1)
  else
    some (Sum.inr v1)
noncomputable def fX7_freeNode_2 (n : Nat) (Sh : Sp) (M : Mm) (a0 : Nat) (v1 : Int32) : Option Int32 :=
  iter n (fun s => fX7_freeNode_2b n Sh M a0 s) v1
noncomputable def fX7_freeNode (n : Nat) (Sh : Sp) (M : Mm) (a0 : Nat) : Option Int32 :=
  fX7_freeNode_2 n Sh M a0 0
set_option maxRecDepth 100000 in
set_option maxHeartbeats 4000000 in
theorem kX7_freeNode {l : Launch} {G : Gt} {n : Nat} {Sh : Sp} {M : Mm} {a0 : Nat} (hT : Sh a0 = some (.inl 7)) {r : Int32} (h : fX7_freeNode n Sh M a0 = some r) : Ct l yX7_freeNode cX7_freeNode 2 (some .int) rmX7_freeNode G Sh M [.ref a0] (some (.int r)) M := by
  refine Ct.of (by decide) (Nat.le_of_ble_eq_true rfl) ?_
  intro p e s m args below meth c ls C hK hX hP hS hb hlk hr hl
  replace hl : lv_has ls 2 [(0, .ref a0)] := hl
  have J2 : ∀ (k : Nat) (v1 : Int32) (H : Heap) (locs : List Loc) (ls : Array Slot), HM G Sh M H → SS G s s.heap.size H locs → lv_has ls 2 [(0, .ref a0), (1, .int v1)] → iter k (fun s => fX7_freeNode_2b n Sh M a0 s) v1 = some r → W p l e rmX7_freeNode s m args below meth c H locs 0 0 (MQ below (QG G Sh M (some (.int r))) args s rmX7_freeNode.cells rmX7_freeNode.slots (AA G)) (F0 m 2 ls []) := by
    intro k
    induction k with
    | zero => intro v1 H locs ls hP hS hl h; exact (iter_0 h).elim
    | succ k ih1 =>
      intro v1 H locs ls hP hS hl h
      obtain ⟨z1, h, hz1⟩ := iter_some h
      replace h : fX7_freeNode_2b n Sh M a0 v1 = some z1 := h
      unfold fX7_freeNode_2b at h
      refine lv_iload_n C.1 C.2.1 dX7_freeNode_2 rfl (lv_at hl 1 rfl) ?_
      refine lv_bipush (v := 24) C.1 C.2.1 dX7_freeNode_3 (by decide) ?_
      refine b_ige (tgt := 24) C dX7_freeNode_5 (by decide) h (fun h => ?_) (fun h => ?_)
      · refine lv_aload_n C.1 C.2.1 dX7_freeNode_8 rfl (lv_at hl 0 rfl) ?_
        refine lv_iload_n C.1 C.2.1 dX7_freeNode_9 rfl (lv_at hl 1 rfl) ?_
        refine lv_iconst (v := 0) C.1 C.2.1 dX7_freeNode_10 (by decide) ?_
        obtain ⟨r1, hc, h⟩ := bS h
        refine r_V1 C hK hX hb hP hS hl.1 (kX7_of (hT) hc) hT cl_7 wd_1197 mo_X7_of wd_1199 wd_24 ⟨Nat.le_of_ble_eq_true rfl, Nat.le_of_ble_eq_true rfl⟩ ⟨Nat.le_of_ble_eq_true rfl, Nat.le_of_ble_eq_true rfl⟩ rfl (rest := []) rfl (Nat.le_of_ble_eq_true rfl) dX7_freeNode_11 (fun H locs hP hS => ?_)
        refine lv_iconst (v := 1) C.1 C.2.1 dX7_freeNode_14 (by decide) ?_
        refine b_ine (tgt := 24) C dX7_freeNode_15 (by decide) h (fun h => ?_) (fun h => ?_)
        · refine lv_iinc (v := (v1 + 1)) (lv' := [(1, .int (v1 + 1)), (0, .ref a0)]) C.1 C.2.1 dX7_freeNode_18 hl (k := 1) rfl rfl (by decide) rfl (fun ls hl => ?_)
          refine lv_goto (tgt := 2) C.1 C.2.1 dX7_freeNode_21 (by decide) ?_
          have e := Option.some.inj h
          rw [← e] at hz1
          exact ih1 ((v1 + 1)) _ _ _ hP hS (lv_sub hl [1, 0] rfl) (itK_inl hz1)
        · refine lv_iload_n C.1 C.2.1 dX7_freeNode_24 rfl (lv_at hl 1 rfl) ?_
          have e := Option.some.inj h
          rw [← e] at hz1
          replace e := itK_inr hz1
          exact q_i C hlk hP hS hr (by rw [← e]) rfl dX7_freeNode_25
      · refine lv_iload_n C.1 C.2.1 dX7_freeNode_24 rfl (lv_at hl 1 rfl) ?_
        have e := Option.some.inj h
        rw [← e] at hz1
        replace e := itK_inr hz1
        exact q_i C hlk hP hS hr (by rw [← e]) rfl dX7_freeNode_25
  unfold fX7_freeNode at h
  refine lv_iconst (v := 0) C.1 C.2.1 dX7_freeNode_0 (by decide) ?_
  refine lv_istore_n (lv' := [(1, .int 0), (0, .ref a0)]) C.1 C.2.1 dX7_freeNode_1 rfl hl (by decide) rfl (fun ls hl => ?_)
  exact J2  n (0) _ _ _ hP hS (lv_sub hl [1, 0] rfl) h
theorem dX7_create_0 : decode cX7_create 0 = .ok (.aload_n 0, 1) := by decide +kernel
theorem dX7_create_1 : decode cX7_create 1 = .ok (.aload_n 0, 1) := by decide +kernel
theorem dX7_create_2 : decode cX7_create 2 = .ok (.iload_n 1, 1) := by decide +kernel
theorem dX7_create_3 : decode cX7_create 3 = .ok (.invokevirtual 123, 3) := by decide +kernel
theorem dX7_create_6 : decode cX7_create 6 = .ok (.ifCond .eq 16, 3) := by decide +kernel
theorem dX7_create_9 : decode cX7_create 9 = .ok (.iload_n 2, 1) := by decide +kernel
theorem dX7_create_10 : decode cX7_create 10 = .ok (.iconst 0, 1) := by decide +kernel
theorem dX7_create_11 : decode cX7_create 11 = .ok (.aload_n 0, 1) := by decide +kernel
theorem dX7_create_12 : decode cX7_create 12 = .ok (.iload_n 1, 1) := by decide +kernel
theorem dX7_create_13 : decode cX7_create 13 = .ok (.invokevirtual 126, 3) := by decide +kernel
theorem dX7_create_16 : decode cX7_create 16 = .ok (.invokestatic 36, 3) := by decide +kernel
theorem dX7_create_19 : decode cX7_create 19 = .ok (.ifCond .ne 7, 3) := by decide +kernel
theorem dX7_create_22 : decode cX7_create 22 = .ok (.iconst 1, 1) := by decide +kernel
theorem dX7_create_23 : decode cX7_create 23 = .ok (.goto 31, 3) := by decide +kernel
theorem dX7_create_26 : decode cX7_create 26 = .ok (.iload_n 3, 1) := by decide +kernel
theorem dX7_create_27 : decode cX7_create 27 = .ok (.iconst 0, 1) := by decide +kernel
theorem dX7_create_28 : decode cX7_create 28 = .ok (.bipush 10, 2) := by decide +kernel
theorem dX7_create_30 : decode cX7_create 30 = .ok (.invokestatic 36, 3) := by decide +kernel
theorem dX7_create_33 : decode cX7_create 33 = .ok (.ifCond .ne 7, 3) := by decide +kernel
theorem dX7_create_36 : decode cX7_create 36 = .ok (.iconst 2, 1) := by decide +kernel
theorem dX7_create_37 : decode cX7_create 37 = .ok (.goto 17, 3) := by decide +kernel
theorem dX7_create_40 : decode cX7_create 40 = .ok (.aload_n 0, 1) := by decide +kernel
theorem dX7_create_41 : decode cX7_create 41 = .ok (.invokevirtual 129, 3) := by decide +kernel
theorem dX7_create_44 : decode cX7_create 44 = .ok (.bipush 24, 2) := by decide +kernel
theorem dX7_create_46 : decode cX7_create 46 = .ok (.if_icmp .ne 7, 3) := by decide +kernel
theorem dX7_create_49 : decode cX7_create 49 = .ok (.iconst 3, 1) := by decide +kernel
theorem dX7_create_50 : decode cX7_create 50 = .ok (.goto 4, 3) := by decide +kernel
theorem dX7_create_53 : decode cX7_create 53 = .ok (.iconst 0, 1) := by decide +kernel
theorem dX7_create_54 : decode cX7_create 54 = .ok (.putfield 29, 3) := by decide +kernel
theorem dX7_create_57 : decode cX7_create 57 = .ok (.aload_n 0, 1) := by decide +kernel
theorem dX7_create_58 : decode cX7_create 58 = .ok (.getfield 29, 3) := by decide +kernel
theorem dX7_create_61 : decode cX7_create 61 = .ok (.ifCond .eq 5, 3) := by decide +kernel
theorem dX7_create_64 : decode cX7_create 64 = .ok (.iconst 0, 1) := by decide +kernel
theorem dX7_create_65 : decode cX7_create 65 = .ok (.ireturn, 1) := by decide +kernel
theorem dX7_create_66 : decode cX7_create 66 = .ok (.aload_n 0, 1) := by decide +kernel
theorem dX7_create_67 : decode cX7_create 67 = .ok (.invokevirtual 133, 3) := by decide +kernel
theorem dX7_create_70 : decode cX7_create 70 = .ok (.aload_n 0, 1) := by decide +kernel
theorem dX7_create_71 : decode cX7_create 71 = .ok (.invokevirtual 129, 3) := by decide +kernel
theorem dX7_create_74 : decode cX7_create 74 = .ok (.istore 4, 2) := by decide +kernel
theorem dX7_create_76 : decode cX7_create 76 = .ok (.iconst 0, 1) := by decide +kernel
theorem dX7_create_77 : decode cX7_create 77 = .ok (.istore 5, 2) := by decide +kernel
theorem dX7_create_79 : decode cX7_create 79 = .ok (.iload 5, 2) := by decide +kernel
theorem dX7_create_81 : decode cX7_create 81 = .ok (.bipush 30, 2) := by decide +kernel
theorem dX7_create_83 : decode cX7_create 83 = .ok (.if_icmp .ge 18, 3) := by decide +kernel
theorem dX7_create_86 : decode cX7_create 86 = .ok (.aload_n 0, 1) := by decide +kernel
theorem dX7_create_87 : decode cX7_create 87 = .ok (.iload 4, 2) := by decide +kernel
theorem dX7_create_89 : decode cX7_create 89 = .ok (.iload 5, 2) := by decide +kernel
theorem dX7_create_91 : decode cX7_create 91 = .ok (.iconst 0, 1) := by decide +kernel
theorem dX7_create_92 : decode cX7_create 92 = .ok (.invokevirtual 54, 3) := by decide +kernel
theorem dX7_create_95 : decode cX7_create 95 = .ok (.iinc 5 1, 3) := by decide +kernel
theorem dX7_create_98 : decode cX7_create 98 = .ok (.goto (-19), 3) := by decide +kernel
theorem dX7_create_101 : decode cX7_create 101 = .ok (.aload_n 0, 1) := by decide +kernel
theorem dX7_create_102 : decode cX7_create 102 = .ok (.iload 4, 2) := by decide +kernel
theorem dX7_create_104 : decode cX7_create 104 = .ok (.iconst 0, 1) := by decide +kernel
theorem dX7_create_105 : decode cX7_create 105 = .ok (.iconst 1, 1) := by decide +kernel
theorem dX7_create_106 : decode cX7_create 106 = .ok (.invokevirtual 54, 3) := by decide +kernel
theorem dX7_create_109 : decode cX7_create 109 = .ok (.aload_n 0, 1) := by decide +kernel
theorem dX7_create_110 : decode cX7_create 110 = .ok (.iload 4, 2) := by decide +kernel
theorem dX7_create_112 : decode cX7_create 112 = .ok (.iconst 3, 1) := by decide +kernel
theorem dX7_create_113 : decode cX7_create 113 = .ok (.iload_n 3, 1) := by decide +kernel
theorem dX7_create_114 : decode cX7_create 114 = .ok (.invokevirtual 54, 3) := by decide +kernel
theorem dX7_create_117 : decode cX7_create 117 = .ok (.aload_n 0, 1) := by decide +kernel
theorem dX7_create_118 : decode cX7_create 118 = .ok (.iload 4, 2) := by decide +kernel
theorem dX7_create_120 : decode cX7_create 120 = .ok (.iconst 4, 1) := by decide +kernel
theorem dX7_create_121 : decode cX7_create 121 = .ok (.iconst (-1), 1) := by decide +kernel
theorem dX7_create_122 : decode cX7_create 122 = .ok (.invokevirtual 54, 3) := by decide +kernel
theorem dX7_create_125 : decode cX7_create 125 = .ok (.aload_n 0, 1) := by decide +kernel
theorem dX7_create_126 : decode cX7_create 126 = .ok (.iload 4, 2) := by decide +kernel
theorem dX7_create_128 : decode cX7_create 128 = .ok (.bipush 11, 2) := by decide +kernel
theorem dX7_create_130 : decode cX7_create 130 = .ok (.iconst (-1), 1) := by decide +kernel
theorem dX7_create_131 : decode cX7_create 131 = .ok (.invokevirtual 54, 3) := by decide +kernel
theorem dX7_create_134 : decode cX7_create 134 = .ok (.aload_n 0, 1) := by decide +kernel
theorem dX7_create_135 : decode cX7_create 135 = .ok (.iload 4, 2) := by decide +kernel
theorem dX7_create_137 : decode cX7_create 137 = .ok (.iload_n 1, 1) := by decide +kernel
theorem dX7_create_138 : decode cX7_create 138 = .ok (.iload_n 2, 1) := by decide +kernel
theorem dX7_create_139 : decode cX7_create 139 = .ok (.invokevirtual 136, 3) := by decide +kernel
theorem dX7_create_142 : decode cX7_create 142 = .ok (.iload 4, 2) := by decide +kernel
theorem dX7_create_144 : decode cX7_create 144 = .ok (.ireturn, 1) := by decide +kernel
abbrev rmX7_create : Room := { frames := 3, cells := 0, slots := 0, locals := 87 }
noncomputable def fX7_create_101 (n : Nat) (Sh : Sp) (a0 : Nat) (a1 : Int32) (a2 : Int32) (a3 : Int32) (M : Mm) (v4 : Int32) : Option (Int32 × Mm) :=
  (fX7_put n Sh M a0 v4 0 1).bind fun r1 =>
  (fX7_put n Sh r1 a0 v4 3 a3).bind fun r2 =>
  (fX7_put n Sh r2 a0 v4 4 (-1)).bind fun r3 =>
  (fX7_put n Sh r3 a0 v4 11 (-1)).bind fun r4 =>
  (fX7_attach n Sh r4 a0 v4 a1 a2).bind fun r5 =>
  some (v4, r5)
noncomputable def fX7_create_79b (n : Nat) (Sh : Sp) (a0 : Nat) (a1 : Int32) (a2 : Int32) (a3 : Int32) (M : Mm) (v4 : Int32) (v5 : Int32) : Option ((Int32 × Mm) ⊕ (Int32 × Mm)) :=
  if v5 < 30 then
    (fX7_put n Sh M a0 v4 v5 0).bind fun r6 =>
    some (Sum.inl ((v5 + 1), r6))
  else
    (fX7_create_101 n Sh a0 a1 a2 a3 M v4).map Sum.inr
noncomputable def fX7_create_79 (n : Nat) (Sh : Sp) (a0 : Nat) (a1 : Int32) (a2 : Int32) (a3 : Int32) (M : Mm) (v4 : Int32) (v5 : Int32) : Option (Int32 × Mm) :=
  iter n (fun s => fX7_create_79b n Sh a0 a1 a2 a3 s.2 v4 s.1) (v5, M)
noncomputable def fX7_create_54 (n : Nat) (Sh : Sp) (a0 : Nat) (a1 : Int32) (a2 : Int32) (a3 : Int32) (M : Mm) (t0 : Nat) (t1 : Int32) : Option (Int32 × Mm) :=
  pI Sh M t0 7 5 t1 fun M7 =>
  tI M7 a0 5 fun x8 =>
  if x8 = 0 then
    (fX7_keep n Sh M7 a0).bind fun r9 =>
    (fX7_freeNode n Sh r9 a0).bind fun r10 =>
    fX7_create_79 n Sh a0 a1 a2 a3 r9 r10 0
  else
    some (0, M7)
noncomputable def fX7_create_22 (n : Nat) (Sh : Sp) (a0 : Nat) (a1 : Int32) (a2 : Int32) (a3 : Int32) (M : Mm) (t0 : Nat) : Option (Int32 × Mm) :=
  fX7_create_54 n Sh a0 a1 a2 a3 M t0 1
noncomputable def fX7_create (n : Nat) (Sh : Sp) (M : Mm) (a0 : Nat) (a1 : Int32) (a2 : Int32) (a3 : Int32) : Option (Int32 × Mm) :=
  (fX7_isNode n Sh M a0 a1).bind fun r11 =>
  if r11 = 0 then
    fX7_create_22 n Sh a0 a1 a2 a3 M a0
  else
    (fX7_childMany n Sh M a0 a1).bind fun r12 =>
    (fX7_in n Sh M a2 0 r12).bind fun r13 =>
    if r13 = 0 then
      fX7_create_22 n Sh a0 a1 a2 a3 M a0
    else
      (fX7_in n Sh M a3 0 10).bind fun r14 =>
      if r14 = 0 then
        fX7_create_54 n Sh a0 a1 a2 a3 M a0 2
      else
        (fX7_freeNode n Sh M a0).bind fun r15 =>
        if r15 = 24 then
          fX7_create_54 n Sh a0 a1 a2 a3 M a0 3
        else
          fX7_create_54 n Sh a0 a1 a2 a3 M a0 0
set_option maxRecDepth 100000 in
set_option maxHeartbeats 4000000 in
theorem kX7_create {l : Launch} {G : Gt} {n : Nat} {Sh : Sp} {M : Mm} {a0 : Nat} {a1 : Int32} {a2 : Int32} {a3 : Int32} (hT : Sh a0 = some (.inl 7)) {r : (Int32 × Mm)} (h : fX7_create n Sh M a0 a1 a2 a3 = some r) : Ct l yX7_create cX7_create 6 (some .int) rmX7_create G Sh M [.ref a0, .int a1, .int a2, .int a3] (some (.int r.1)) r.2 := by
  refine Ct.of (by decide) (Nat.le_of_ble_eq_true rfl) ?_
  intro p e s m args below meth c ls C hK hX hP hS hb hlk hr hl
  replace hl : lv_has ls 6 [(0, .ref a0), (1, .int a1), (2, .int a2), (3, .int a3)] := hl
  have J101 : ∀ (M : Mm) (v4 : Int32) (H : Heap) (locs : List Loc) (ls : Array Slot), HM G Sh M H → SS G s s.heap.size H locs → lv_has ls 6 [(0, .ref a0), (1, .int a1), (2, .int a2), (3, .int a3), (4, .int v4)] → fX7_create_101 n Sh a0 a1 a2 a3 M v4 = some r → W p l e rmX7_create s m args below meth c H locs 0 0 (MQ below (QG G Sh r.2 (some (.int r.1))) args s rmX7_create.cells rmX7_create.slots (AA G)) (F0 m 101 ls []) := by
    intro M v4 H locs ls hP hS hl h
    unfold fX7_create_101 at h
    refine lv_aload_n C.1 C.2.1 dX7_create_101 rfl (lv_at hl 0 rfl) ?_
    refine lv_iload C.1 C.2.1 dX7_create_102 (lv_at hl 4 rfl) ?_
    refine lv_iconst (v := 0) C.1 C.2.1 dX7_create_104 (by decide) ?_
    refine lv_iconst (v := 1) C.1 C.2.1 dX7_create_105 (by decide) ?_
    obtain ⟨r1, hc, h⟩ := bS h
    refine r_V0 C hK hX hb hP hS hl.1 (kX7_put (hT) hc) hT cl_7 wd_1213 mo_X7_put wd_1215 wd_28 ⟨Nat.le_of_ble_eq_true rfl, Nat.le_of_ble_eq_true rfl⟩ ⟨Nat.le_of_ble_eq_true rfl, Nat.le_of_ble_eq_true rfl⟩ rfl (rest := []) rfl (Nat.le_of_ble_eq_true rfl) dX7_create_106 (fun H locs hP hS => ?_)
    refine lv_aload_n C.1 C.2.1 dX7_create_109 rfl (lv_at hl 0 rfl) ?_
    refine lv_iload C.1 C.2.1 dX7_create_110 (lv_at hl 4 rfl) ?_
    refine lv_iconst (v := 3) C.1 C.2.1 dX7_create_112 (by decide) ?_
    refine lv_iload_n C.1 C.2.1 dX7_create_113 rfl (lv_at hl 3 rfl) ?_
    obtain ⟨r2, hc, h⟩ := bS h
    refine r_V0 C hK hX hb hP hS hl.1 (kX7_put (hT) hc) hT cl_7 wd_1213 mo_X7_put wd_1215 wd_28 ⟨Nat.le_of_ble_eq_true rfl, Nat.le_of_ble_eq_true rfl⟩ ⟨Nat.le_of_ble_eq_true rfl, Nat.le_of_ble_eq_true rfl⟩ rfl (rest := []) rfl (Nat.le_of_ble_eq_true rfl) dX7_create_114 (fun H locs hP hS => ?_)
    refine lv_aload_n C.1 C.2.1 dX7_create_117 rfl (lv_at hl 0 rfl) ?_
    refine lv_iload C.1 C.2.1 dX7_create_118 (lv_at hl 4 rfl) ?_
    refine lv_iconst (v := 4) C.1 C.2.1 dX7_create_120 (by decide) ?_
    refine lv_iconst (v := (-1)) C.1 C.2.1 dX7_create_121 (by decide) ?_
    obtain ⟨r3, hc, h⟩ := bS h
    refine r_V0 C hK hX hb hP hS hl.1 (kX7_put (hT) hc) hT cl_7 wd_1213 mo_X7_put wd_1215 wd_28 ⟨Nat.le_of_ble_eq_true rfl, Nat.le_of_ble_eq_true rfl⟩ ⟨Nat.le_of_ble_eq_true rfl, Nat.le_of_ble_eq_true rfl⟩ rfl (rest := []) rfl (Nat.le_of_ble_eq_true rfl) dX7_create_122 (fun H locs hP hS => ?_)
    refine lv_aload_n C.1 C.2.1 dX7_create_125 rfl (lv_at hl 0 rfl) ?_
    refine lv_iload C.1 C.2.1 dX7_create_126 (lv_at hl 4 rfl) ?_
    refine lv_bipush (v := 11) C.1 C.2.1 dX7_create_128 (by decide) ?_
    refine lv_iconst (v := (-1)) C.1 C.2.1 dX7_create_130 (by decide) ?_
    obtain ⟨r4, hc, h⟩ := bS h
    refine r_V0 C hK hX hb hP hS hl.1 (kX7_put (hT) hc) hT cl_7 wd_1213 mo_X7_put wd_1215 wd_28 ⟨Nat.le_of_ble_eq_true rfl, Nat.le_of_ble_eq_true rfl⟩ ⟨Nat.le_of_ble_eq_true rfl, Nat.le_of_ble_eq_true rfl⟩ rfl (rest := []) rfl (Nat.le_of_ble_eq_true rfl) dX7_create_131 (fun H locs hP hS => ?_)
    refine lv_aload_n C.1 C.2.1 dX7_create_134 rfl (lv_at hl 0 rfl) ?_
    refine lv_iload C.1 C.2.1 dX7_create_135 (lv_at hl 4 rfl) ?_
    refine lv_iload_n C.1 C.2.1 dX7_create_137 rfl (lv_at hl 1 rfl) ?_
    refine lv_iload_n C.1 C.2.1 dX7_create_138 rfl (lv_at hl 2 rfl) ?_
    obtain ⟨r5, hc, h⟩ := bS h
    refine r_V0 C hK hX hb hP hS hl.1 (kX7_attach (hT) hc) hT cl_7 wd_1217 mo_X7_attach wd_1219 wd_29 ⟨Nat.le_of_ble_eq_true rfl, Nat.le_of_ble_eq_true rfl⟩ ⟨Nat.le_of_ble_eq_true rfl, Nat.le_of_ble_eq_true rfl⟩ rfl (rest := []) rfl (Nat.le_of_ble_eq_true rfl) dX7_create_139 (fun H locs hP hS => ?_)
    refine lv_iload C.1 C.2.1 dX7_create_142 (lv_at hl 4 rfl) ?_
    have e := Option.some.inj h
    exact q_i C hlk hP hS hr (by rw [← e]) (by rw [← e]) dX7_create_144
  have J79 : ∀ (v4 : Int32), ∀ (k : Nat) (v5 : Int32) (M : Mm) (H : Heap) (locs : List Loc) (ls : Array Slot), HM G Sh M H → SS G s s.heap.size H locs → lv_has ls 6 [(0, .ref a0), (1, .int a1), (2, .int a2), (3, .int a3), (4, .int v4), (5, .int v5)] → iter k (fun s => fX7_create_79b n Sh a0 a1 a2 a3 s.2 v4 s.1) (v5, M) = some r → W p l e rmX7_create s m args below meth c H locs 0 0 (MQ below (QG G Sh r.2 (some (.int r.1))) args s rmX7_create.cells rmX7_create.slots (AA G)) (F0 m 79 ls []) := by
    intro v4 k
    induction k with
    | zero => intro v5 M H locs ls hP hS hl h; exact (iter_0 h).elim
    | succ k ih1 =>
      intro v5 M H locs ls hP hS hl h
      obtain ⟨z1, h, hz1⟩ := iter_some h
      replace h : fX7_create_79b n Sh a0 a1 a2 a3 M v4 v5 = some z1 := h
      unfold fX7_create_79b at h
      refine lv_iload C.1 C.2.1 dX7_create_79 (lv_at hl 5 rfl) ?_
      refine lv_bipush (v := 30) C.1 C.2.1 dX7_create_81 (by decide) ?_
      refine b_ige (tgt := 101) C dX7_create_83 (by decide) h (fun h => ?_) (fun h => ?_)
      · refine lv_aload_n C.1 C.2.1 dX7_create_86 rfl (lv_at hl 0 rfl) ?_
        refine lv_iload C.1 C.2.1 dX7_create_87 (lv_at hl 4 rfl) ?_
        refine lv_iload C.1 C.2.1 dX7_create_89 (lv_at hl 5 rfl) ?_
        refine lv_iconst (v := 0) C.1 C.2.1 dX7_create_91 (by decide) ?_
        obtain ⟨r6, hc, h⟩ := bS h
        refine r_V0 C hK hX hb hP hS hl.1 (kX7_put (hT) hc) hT cl_7 wd_1213 mo_X7_put wd_1215 wd_28 ⟨Nat.le_of_ble_eq_true rfl, Nat.le_of_ble_eq_true rfl⟩ ⟨Nat.le_of_ble_eq_true rfl, Nat.le_of_ble_eq_true rfl⟩ rfl (rest := []) rfl (Nat.le_of_ble_eq_true rfl) dX7_create_92 (fun H locs hP hS => ?_)
        refine lv_iinc (v := (v5 + 1)) (lv' := [(5, .int (v5 + 1)), (0, .ref a0), (1, .int a1), (2, .int a2), (3, .int a3), (4, .int v4)]) C.1 C.2.1 dX7_create_95 hl (k := 5) rfl rfl (by decide) rfl (fun ls hl => ?_)
        refine lv_goto (tgt := 79) C.1 C.2.1 dX7_create_98 (by decide) ?_
        have e := Option.some.inj h
        rw [← e] at hz1
        exact ih1 ((v5 + 1)) r6 _ _ _ hP hS (lv_sub hl [1, 2, 3, 4, 5, 0] rfl) (itK_inl hz1)
      · obtain ⟨w1, h, e⟩ := mS h
        rw [← e] at hz1
        replace e := itK_inr hz1
        rw [e] at h
        exact J101 (M) (v4) _ _ _ hP hS (lv_sub hl [0, 1, 2, 3, 4] rfl) h
  have J54 : ∀ (M : Mm) (t0 : Nat) (t1 : Int32) (H : Heap) (locs : List Loc) (ls : Array Slot), HM G Sh M H → SS G s s.heap.size H locs → lv_has ls 6 [(0, .ref a0), (1, .int a1), (2, .int a2), (3, .int a3)] → fX7_create_54 n Sh a0 a1 a2 a3 M t0 t1 = some r → W p l e rmX7_create s m args below meth c H locs 0 0 (MQ below (QG G Sh r.2 (some (.int r.1))) args s rmX7_create.cells rmX7_create.slots (AA G)) (F0 m 54 ls [.int t1, .ref t0]) := by
    intro M t0 t1 H locs ls hP hS hl h
    unfold fX7_create_54 at h
    refine r_pI C hK hP hS cl_7 (k := 5) (by decide) wd_1149 rfl rfl (tyX7_ok 5 (by decide)) dX7_create_54 h (fun M7 H locs h hP hS => ?_)
    refine lv_aload_n C.1 C.2.1 dX7_create_57 rfl (lv_at hl 0 rfl) ?_
    refine r_tI C hK hP hT cl_7 (k := 5) (by decide) wd_1149 rfl dX7_create_58 h (fun x8 h => ?_)
    refine b_eq (tgt := 66) C dX7_create_61 (by decide) h (fun h => ?_) (fun h => ?_)
    · refine lv_aload_n C.1 C.2.1 dX7_create_66 rfl (lv_at hl 0 rfl) ?_
      obtain ⟨r9, hc, h⟩ := bS h
      refine r_V0 C hK hX hb hP hS hl.1 (kX7_keep (hT) hc) hT cl_7 wd_1209 mo_X7_keep wd_1211 wd_27 ⟨Nat.le_of_ble_eq_true rfl, Nat.le_of_ble_eq_true rfl⟩ ⟨Nat.le_of_ble_eq_true rfl, Nat.le_of_ble_eq_true rfl⟩ rfl (rest := []) rfl (Nat.le_of_ble_eq_true rfl) dX7_create_67 (fun H locs hP hS => ?_)
      refine lv_aload_n C.1 C.2.1 dX7_create_70 rfl (lv_at hl 0 rfl) ?_
      obtain ⟨r10, hc, h⟩ := bS h
      refine r_V1 C hK hX hb hP hS hl.1 (kX7_freeNode (hT) hc) hT cl_7 wd_1205 mo_X7_freeNode wd_1207 wd_26 ⟨Nat.le_of_ble_eq_true rfl, Nat.le_of_ble_eq_true rfl⟩ ⟨Nat.le_of_ble_eq_true rfl, Nat.le_of_ble_eq_true rfl⟩ rfl (rest := []) rfl (Nat.le_of_ble_eq_true rfl) dX7_create_71 (fun H locs hP hS => ?_)
      refine lv_istore (lv' := [(4, .int r10), (0, .ref a0), (1, .int a1), (2, .int a2), (3, .int a3)]) C.1 C.2.1 dX7_create_74 hl (by decide) rfl (fun ls hl => ?_)
      refine lv_iconst (v := 0) C.1 C.2.1 dX7_create_76 (by decide) ?_
      refine lv_istore (lv' := [(5, .int 0), (4, .int r10), (0, .ref a0), (1, .int a1), (2, .int a2), (3, .int a3)]) C.1 C.2.1 dX7_create_77 hl (by decide) rfl (fun ls hl => ?_)
      exact J79 (r10) n (0) r9 _ _ _ hP hS (lv_sub hl [2, 3, 4, 5, 1, 0] rfl) h
    · refine lv_iconst (v := 0) C.1 C.2.1 dX7_create_64 (by decide) ?_
      have e := Option.some.inj h
      exact q_i C hlk hP hS hr (by rw [← e]) (by rw [← e]) dX7_create_65
  have J22 : ∀ (M : Mm) (t0 : Nat) (H : Heap) (locs : List Loc) (ls : Array Slot), HM G Sh M H → SS G s s.heap.size H locs → lv_has ls 6 [(0, .ref a0), (1, .int a1), (2, .int a2), (3, .int a3)] → fX7_create_22 n Sh a0 a1 a2 a3 M t0 = some r → W p l e rmX7_create s m args below meth c H locs 0 0 (MQ below (QG G Sh r.2 (some (.int r.1))) args s rmX7_create.cells rmX7_create.slots (AA G)) (F0 m 22 ls [.ref t0]) := by
    intro M t0 H locs ls hP hS hl h
    unfold fX7_create_22 at h
    refine lv_iconst (v := 1) C.1 C.2.1 dX7_create_22 (by decide) ?_
    refine lv_goto (tgt := 54) C.1 C.2.1 dX7_create_23 (by decide) ?_
    exact J54 (M) (t0) (1) _ _ _ hP hS (lv_sub hl [0, 1, 2, 3] rfl) h
  unfold fX7_create at h
  refine lv_aload_n C.1 C.2.1 dX7_create_0 rfl (lv_at hl 0 rfl) ?_
  refine lv_aload_n C.1 C.2.1 dX7_create_1 rfl (lv_at hl 0 rfl) ?_
  refine lv_iload_n C.1 C.2.1 dX7_create_2 rfl (lv_at hl 1 rfl) ?_
  obtain ⟨r11, hc, h⟩ := bS h
  refine r_V1 C hK hX hb hP hS hl.1 (kX7_isNode (hT) hc) hT cl_7 wd_1190 mo_X7_isNode wd_1192 wd_23 ⟨Nat.le_of_ble_eq_true rfl, Nat.le_of_ble_eq_true rfl⟩ ⟨Nat.le_of_ble_eq_true rfl, Nat.le_of_ble_eq_true rfl⟩ rfl (rest := [.ref a0]) rfl (Nat.le_of_ble_eq_true rfl) dX7_create_3 (fun H locs hP hS => ?_)
  refine b_eq (tgt := 22) C dX7_create_6 (by decide) h (fun h => ?_) (fun h => ?_)
  · exact J22 (M) (a0) _ _ _ hP hS (lv_sub hl [0, 1, 2, 3] rfl) h
  · refine lv_iload_n C.1 C.2.1 dX7_create_9 rfl (lv_at hl 2 rfl) ?_
    refine lv_iconst (v := 0) C.1 C.2.1 dX7_create_10 (by decide) ?_
    refine lv_aload_n C.1 C.2.1 dX7_create_11 rfl (lv_at hl 0 rfl) ?_
    refine lv_iload_n C.1 C.2.1 dX7_create_12 rfl (lv_at hl 1 rfl) ?_
    obtain ⟨r12, hc, h⟩ := bS h
    refine r_V1 C hK hX hb hP hS hl.1 (kX7_childMany (hT) hc) hT cl_7 wd_1201 mo_X7_childMany wd_1203 wd_25 ⟨Nat.le_of_ble_eq_true rfl, Nat.le_of_ble_eq_true rfl⟩ ⟨Nat.le_of_ble_eq_true rfl, Nat.le_of_ble_eq_true rfl⟩ rfl (rest := [.int 0, .int a2, .ref a0]) rfl (Nat.le_of_ble_eq_true rfl) dX7_create_13 (fun H locs hP hS => ?_)
    obtain ⟨r13, hc, h⟩ := bS h
    refine r_S1 C hK hX hb hP hS hl.1 (kX7_in hc) wd_1194 mo_X7_in wd_1195 ⟨Nat.le_of_ble_eq_true rfl, Nat.le_of_ble_eq_true rfl⟩ ⟨Nat.le_of_ble_eq_true rfl, Nat.le_of_ble_eq_true rfl⟩ rfl (rest := [.ref a0]) rfl (Nat.le_of_ble_eq_true rfl) dX7_create_16 (fun H locs hP hS => ?_)
    refine b_ne (tgt := 26) C dX7_create_19 (by decide) h (fun h => ?_) (fun h => ?_)
    · exact J22 (M) (a0) _ _ _ hP hS (lv_sub hl [0, 1, 2, 3] rfl) h
    · refine lv_iload_n C.1 C.2.1 dX7_create_26 rfl (lv_at hl 3 rfl) ?_
      refine lv_iconst (v := 0) C.1 C.2.1 dX7_create_27 (by decide) ?_
      refine lv_bipush (v := 10) C.1 C.2.1 dX7_create_28 (by decide) ?_
      obtain ⟨r14, hc, h⟩ := bS h
      refine r_S1 C hK hX hb hP hS hl.1 (kX7_in hc) wd_1194 mo_X7_in wd_1195 ⟨Nat.le_of_ble_eq_true rfl, Nat.le_of_ble_eq_true rfl⟩ ⟨Nat.le_of_ble_eq_true rfl, Nat.le_of_ble_eq_true rfl⟩ rfl (rest := [.ref a0]) rfl (Nat.le_of_ble_eq_true rfl) dX7_create_30 (fun H locs hP hS => ?_)
      refine b_ne (tgt := 40) C dX7_create_33 (by decide) h (fun h => ?_) (fun h => ?_)
      · refine lv_iconst (v := 2) C.1 C.2.1 dX7_create_36 (by decide) ?_
        refine lv_goto (tgt := 54) C.1 C.2.1 dX7_create_37 (by decide) ?_
        exact J54 (M) (a0) (2) _ _ _ hP hS (lv_sub hl [0, 1, 2, 3] rfl) h
      · refine lv_aload_n C.1 C.2.1 dX7_create_40 rfl (lv_at hl 0 rfl) ?_
        obtain ⟨r15, hc, h⟩ := bS h
        refine r_V1 C hK hX hb hP hS hl.1 (kX7_freeNode (hT) hc) hT cl_7 wd_1205 mo_X7_freeNode wd_1207 wd_26 ⟨Nat.le_of_ble_eq_true rfl, Nat.le_of_ble_eq_true rfl⟩ ⟨Nat.le_of_ble_eq_true rfl, Nat.le_of_ble_eq_true rfl⟩ rfl (rest := [.ref a0]) rfl (Nat.le_of_ble_eq_true rfl) dX7_create_41 (fun H locs hP hS => ?_)
        refine lv_bipush (v := 24) C.1 C.2.1 dX7_create_44 (by decide) ?_
        refine b_ine (tgt := 53) C dX7_create_46 (by decide) h (fun h => ?_) (fun h => ?_)
        · refine lv_iconst (v := 3) C.1 C.2.1 dX7_create_49 (by decide) ?_
          refine lv_goto (tgt := 54) C.1 C.2.1 dX7_create_50 (by decide) ?_
          exact J54 (M) (a0) (3) _ _ _ hP hS (lv_sub hl [0, 1, 2, 3] rfl) h
        · refine lv_iconst (v := 0) C.1 C.2.1 dX7_create_53 (by decide) ?_
          exact J54 (M) (a0) (0) _ _ _ hP hS (lv_sub hl [0, 1, 2, 3] rfl) h
theorem dX7_forget_0 : decode cX7_forget 0 = .ok (.iconst 0, 1) := by decide +kernel
theorem dX7_forget_1 : decode cX7_forget 1 = .ok (.istore_n 1, 1) := by decide +kernel
theorem dX7_forget_2 : decode cX7_forget 2 = .ok (.iload_n 1, 1) := by decide +kernel
theorem dX7_forget_3 : decode cX7_forget 3 = .ok (.bipush 24, 2) := by decide +kernel
theorem dX7_forget_5 : decode cX7_forget 5 = .ok (.if_icmp .ge 94, 3) := by decide +kernel
theorem dX7_forget_8 : decode cX7_forget 8 = .ok (.aload_n 0, 1) := by decide +kernel
theorem dX7_forget_9 : decode cX7_forget 9 = .ok (.iload_n 1, 1) := by decide +kernel
theorem dX7_forget_10 : decode cX7_forget 10 = .ok (.iconst 0, 1) := by decide +kernel
theorem dX7_forget_11 : decode cX7_forget 11 = .ok (.invokevirtual 40, 3) := by decide +kernel
theorem dX7_forget_14 : decode cX7_forget 14 = .ok (.iconst 1, 1) := by decide +kernel
theorem dX7_forget_15 : decode cX7_forget 15 = .ok (.if_icmp .ne 34, 3) := by decide +kernel
theorem dX7_forget_18 : decode cX7_forget 18 = .ok (.aload_n 0, 1) := by decide +kernel
theorem dX7_forget_19 : decode cX7_forget 19 = .ok (.iload_n 1, 1) := by decide +kernel
theorem dX7_forget_20 : decode cX7_forget 20 = .ok (.iconst 4, 1) := by decide +kernel
theorem dX7_forget_21 : decode cX7_forget 21 = .ok (.invokevirtual 40, 3) := by decide +kernel
theorem dX7_forget_24 : decode cX7_forget 24 = .ok (.iconst (-1), 1) := by decide +kernel
theorem dX7_forget_25 : decode cX7_forget 25 = .ok (.if_icmp .eq 24, 3) := by decide +kernel
theorem dX7_forget_28 : decode cX7_forget 28 = .ok (.aload_n 0, 1) := by decide +kernel
theorem dX7_forget_29 : decode cX7_forget 29 = .ok (.getfield 22, 3) := by decide +kernel
theorem dX7_forget_32 : decode cX7_forget 32 = .ok (.aload_n 0, 1) := by decide +kernel
theorem dX7_forget_33 : decode cX7_forget 33 = .ok (.iload_n 1, 1) := by decide +kernel
theorem dX7_forget_34 : decode cX7_forget 34 = .ok (.iconst 4, 1) := by decide +kernel
theorem dX7_forget_35 : decode cX7_forget 35 = .ok (.invokevirtual 40, 3) := by decide +kernel
theorem dX7_forget_38 : decode cX7_forget 38 = .ok (.baload, 1) := by decide +kernel
theorem dX7_forget_39 : decode cX7_forget 39 = .ok (.ifCond .eq 10, 3) := by decide +kernel
theorem dX7_forget_42 : decode cX7_forget 42 = .ok (.aload_n 0, 1) := by decide +kernel
theorem dX7_forget_43 : decode cX7_forget 43 = .ok (.iload_n 1, 1) := by decide +kernel
theorem dX7_forget_44 : decode cX7_forget 44 = .ok (.iconst 4, 1) := by decide +kernel
theorem dX7_forget_45 : decode cX7_forget 45 = .ok (.iconst (-1), 1) := by decide +kernel
theorem dX7_forget_46 : decode cX7_forget 46 = .ok (.invokevirtual 54, 3) := by decide +kernel
theorem dX7_forget_49 : decode cX7_forget 49 = .ok (.aload_n 0, 1) := by decide +kernel
theorem dX7_forget_50 : decode cX7_forget 50 = .ok (.iload_n 1, 1) := by decide +kernel
theorem dX7_forget_51 : decode cX7_forget 51 = .ok (.iconst 0, 1) := by decide +kernel
theorem dX7_forget_52 : decode cX7_forget 52 = .ok (.invokevirtual 40, 3) := by decide +kernel
theorem dX7_forget_55 : decode cX7_forget 55 = .ok (.iconst 1, 1) := by decide +kernel
theorem dX7_forget_56 : decode cX7_forget 56 = .ok (.if_icmp .ne 37, 3) := by decide +kernel
theorem dX7_forget_59 : decode cX7_forget 59 = .ok (.aload_n 0, 1) := by decide +kernel
theorem dX7_forget_60 : decode cX7_forget 60 = .ok (.iload_n 1, 1) := by decide +kernel
theorem dX7_forget_61 : decode cX7_forget 61 = .ok (.bipush 11, 2) := by decide +kernel
theorem dX7_forget_63 : decode cX7_forget 63 = .ok (.invokevirtual 40, 3) := by decide +kernel
theorem dX7_forget_66 : decode cX7_forget 66 = .ok (.iconst (-1), 1) := by decide +kernel
theorem dX7_forget_67 : decode cX7_forget 67 = .ok (.if_icmp .eq 26, 3) := by decide +kernel
theorem dX7_forget_70 : decode cX7_forget 70 = .ok (.aload_n 0, 1) := by decide +kernel
theorem dX7_forget_71 : decode cX7_forget 71 = .ok (.getfield 22, 3) := by decide +kernel
theorem dX7_forget_74 : decode cX7_forget 74 = .ok (.aload_n 0, 1) := by decide +kernel
theorem dX7_forget_75 : decode cX7_forget 75 = .ok (.iload_n 1, 1) := by decide +kernel
theorem dX7_forget_76 : decode cX7_forget 76 = .ok (.bipush 11, 2) := by decide +kernel
theorem dX7_forget_78 : decode cX7_forget 78 = .ok (.invokevirtual 40, 3) := by decide +kernel
theorem dX7_forget_81 : decode cX7_forget 81 = .ok (.baload, 1) := by decide +kernel
theorem dX7_forget_82 : decode cX7_forget 82 = .ok (.ifCond .eq 11, 3) := by decide +kernel
theorem dX7_forget_85 : decode cX7_forget 85 = .ok (.aload_n 0, 1) := by decide +kernel
theorem dX7_forget_86 : decode cX7_forget 86 = .ok (.iload_n 1, 1) := by decide +kernel
theorem dX7_forget_87 : decode cX7_forget 87 = .ok (.bipush 11, 2) := by decide +kernel
theorem dX7_forget_89 : decode cX7_forget 89 = .ok (.iconst (-1), 1) := by decide +kernel
theorem dX7_forget_90 : decode cX7_forget 90 = .ok (.invokevirtual 54, 3) := by decide +kernel
theorem dX7_forget_93 : decode cX7_forget 93 = .ok (.iinc 1 1, 3) := by decide +kernel
theorem dX7_forget_96 : decode cX7_forget 96 = .ok (.goto (-94), 3) := by decide +kernel
theorem dX7_forget_99 : decode cX7_forget 99 = .ok (.aload_n 0, 1) := by decide +kernel
theorem dX7_forget_100 : decode cX7_forget 100 = .ok (.getfield 7, 3) := by decide +kernel
theorem dX7_forget_103 : decode cX7_forget 103 = .ok (.sipush 3402, 3) := by decide +kernel
theorem dX7_forget_106 : decode cX7_forget 106 = .ok (.aload_n 0, 1) := by decide +kernel
theorem dX7_forget_107 : decode cX7_forget 107 = .ok (.getfield 7, 3) := by decide +kernel
theorem dX7_forget_110 : decode cX7_forget 110 = .ok (.sipush 3402, 3) := by decide +kernel
theorem dX7_forget_113 : decode cX7_forget 113 = .ok (.iaload, 1) := by decide +kernel
theorem dX7_forget_114 : decode cX7_forget 114 = .ok (.iconst (-1), 1) := by decide +kernel
theorem dX7_forget_115 : decode cX7_forget 115 = .ok (.if_icmp .eq 23, 3) := by decide +kernel
theorem dX7_forget_118 : decode cX7_forget 118 = .ok (.aload_n 0, 1) := by decide +kernel
theorem dX7_forget_119 : decode cX7_forget 119 = .ok (.getfield 22, 3) := by decide +kernel
theorem dX7_forget_122 : decode cX7_forget 122 = .ok (.aload_n 0, 1) := by decide +kernel
theorem dX7_forget_123 : decode cX7_forget 123 = .ok (.getfield 7, 3) := by decide +kernel
theorem dX7_forget_126 : decode cX7_forget 126 = .ok (.sipush 3402, 3) := by decide +kernel
theorem dX7_forget_129 : decode cX7_forget 129 = .ok (.iaload, 1) := by decide +kernel
theorem dX7_forget_130 : decode cX7_forget 130 = .ok (.baload, 1) := by decide +kernel
theorem dX7_forget_131 : decode cX7_forget 131 = .ok (.ifCond .eq 7, 3) := by decide +kernel
theorem dX7_forget_134 : decode cX7_forget 134 = .ok (.iconst (-1), 1) := by decide +kernel
theorem dX7_forget_135 : decode cX7_forget 135 = .ok (.goto 11, 3) := by decide +kernel
theorem dX7_forget_138 : decode cX7_forget 138 = .ok (.aload_n 0, 1) := by decide +kernel
theorem dX7_forget_139 : decode cX7_forget 139 = .ok (.getfield 7, 3) := by decide +kernel
theorem dX7_forget_142 : decode cX7_forget 142 = .ok (.sipush 3402, 3) := by decide +kernel
theorem dX7_forget_145 : decode cX7_forget 145 = .ok (.iaload, 1) := by decide +kernel
theorem dX7_forget_146 : decode cX7_forget 146 = .ok (.iastore, 1) := by decide +kernel
theorem dX7_forget_147 : decode cX7_forget 147 = .ok (.aload_n 0, 1) := by decide +kernel
theorem dX7_forget_148 : decode cX7_forget 148 = .ok (.getfield 7, 3) := by decide +kernel
theorem dX7_forget_151 : decode cX7_forget 151 = .ok (.sipush 3403, 3) := by decide +kernel
theorem dX7_forget_154 : decode cX7_forget 154 = .ok (.aload_n 0, 1) := by decide +kernel
theorem dX7_forget_155 : decode cX7_forget 155 = .ok (.getfield 7, 3) := by decide +kernel
theorem dX7_forget_158 : decode cX7_forget 158 = .ok (.sipush 3403, 3) := by decide +kernel
theorem dX7_forget_161 : decode cX7_forget 161 = .ok (.iaload, 1) := by decide +kernel
theorem dX7_forget_162 : decode cX7_forget 162 = .ok (.iconst (-1), 1) := by decide +kernel
theorem dX7_forget_163 : decode cX7_forget 163 = .ok (.if_icmp .eq 23, 3) := by decide +kernel
theorem dX7_forget_166 : decode cX7_forget 166 = .ok (.aload_n 0, 1) := by decide +kernel
theorem dX7_forget_167 : decode cX7_forget 167 = .ok (.getfield 22, 3) := by decide +kernel
theorem dX7_forget_170 : decode cX7_forget 170 = .ok (.aload_n 0, 1) := by decide +kernel
theorem dX7_forget_171 : decode cX7_forget 171 = .ok (.getfield 7, 3) := by decide +kernel
theorem dX7_forget_174 : decode cX7_forget 174 = .ok (.sipush 3403, 3) := by decide +kernel
theorem dX7_forget_177 : decode cX7_forget 177 = .ok (.iaload, 1) := by decide +kernel
theorem dX7_forget_178 : decode cX7_forget 178 = .ok (.baload, 1) := by decide +kernel
theorem dX7_forget_179 : decode cX7_forget 179 = .ok (.ifCond .eq 7, 3) := by decide +kernel
theorem dX7_forget_182 : decode cX7_forget 182 = .ok (.iconst (-1), 1) := by decide +kernel
theorem dX7_forget_183 : decode cX7_forget 183 = .ok (.goto 11, 3) := by decide +kernel
theorem dX7_forget_186 : decode cX7_forget 186 = .ok (.aload_n 0, 1) := by decide +kernel
theorem dX7_forget_187 : decode cX7_forget 187 = .ok (.getfield 7, 3) := by decide +kernel
theorem dX7_forget_190 : decode cX7_forget 190 = .ok (.sipush 3403, 3) := by decide +kernel
theorem dX7_forget_193 : decode cX7_forget 193 = .ok (.iaload, 1) := by decide +kernel
theorem dX7_forget_194 : decode cX7_forget 194 = .ok (.iastore, 1) := by decide +kernel
theorem dX7_forget_195 : decode cX7_forget 195 = .ok (.aload_n 0, 1) := by decide +kernel
theorem dX7_forget_196 : decode cX7_forget 196 = .ok (.getfield 7, 3) := by decide +kernel
theorem dX7_forget_199 : decode cX7_forget 199 = .ok (.sipush 720, 3) := by decide +kernel
theorem dX7_forget_202 : decode cX7_forget 202 = .ok (.iaload, 1) := by decide +kernel
theorem dX7_forget_203 : decode cX7_forget 203 = .ok (.iconst 1, 1) := by decide +kernel
theorem dX7_forget_204 : decode cX7_forget 204 = .ok (.isub, 1) := by decide +kernel
theorem dX7_forget_205 : decode cX7_forget 205 = .ok (.istore_n 1, 1) := by decide +kernel
theorem dX7_forget_206 : decode cX7_forget 206 = .ok (.iload_n 1, 1) := by decide +kernel
theorem dX7_forget_207 : decode cX7_forget 207 = .ok (.ifCond .lt 63, 3) := by decide +kernel
theorem dX7_forget_210 : decode cX7_forget 210 = .ok (.iload_n 1, 1) := by decide +kernel
theorem dX7_forget_211 : decode cX7_forget 211 = .ok (.invokestatic 100, 3) := by decide +kernel
theorem dX7_forget_214 : decode cX7_forget 214 = .ok (.istore_n 2, 1) := by decide +kernel
theorem dX7_forget_215 : decode cX7_forget 215 = .ok (.aload_n 0, 1) := by decide +kernel
theorem dX7_forget_216 : decode cX7_forget 216 = .ok (.getfield 22, 3) := by decide +kernel
theorem dX7_forget_219 : decode cX7_forget 219 = .ok (.aload_n 0, 1) := by decide +kernel
theorem dX7_forget_220 : decode cX7_forget 220 = .ok (.getfield 7, 3) := by decide +kernel
theorem dX7_forget_223 : decode cX7_forget 223 = .ok (.iload_n 2, 1) := by decide +kernel
theorem dX7_forget_224 : decode cX7_forget 224 = .ok (.iconst 1, 1) := by decide +kernel
theorem dX7_forget_225 : decode cX7_forget 225 = .ok (.iadd, 1) := by decide +kernel
theorem dX7_forget_226 : decode cX7_forget 226 = .ok (.iaload, 1) := by decide +kernel
theorem dX7_forget_227 : decode cX7_forget 227 = .ok (.baload, 1) := by decide +kernel
theorem dX7_forget_228 : decode cX7_forget 228 = .ok (.ifCond .ne 31, 3) := by decide +kernel
theorem dX7_forget_231 : decode cX7_forget 231 = .ok (.aload_n 0, 1) := by decide +kernel
theorem dX7_forget_232 : decode cX7_forget 232 = .ok (.getfield 7, 3) := by decide +kernel
theorem dX7_forget_235 : decode cX7_forget 235 = .ok (.iload_n 2, 1) := by decide +kernel
theorem dX7_forget_236 : decode cX7_forget 236 = .ok (.iconst 2, 1) := by decide +kernel
theorem dX7_forget_237 : decode cX7_forget 237 = .ok (.iadd, 1) := by decide +kernel
theorem dX7_forget_238 : decode cX7_forget 238 = .ok (.iaload, 1) := by decide +kernel
theorem dX7_forget_239 : decode cX7_forget 239 = .ok (.iconst (-1), 1) := by decide +kernel
theorem dX7_forget_240 : decode cX7_forget 240 = .ok (.if_icmp .eq 24, 3) := by decide +kernel
theorem dX7_forget_243 : decode cX7_forget 243 = .ok (.aload_n 0, 1) := by decide +kernel
theorem dX7_forget_244 : decode cX7_forget 244 = .ok (.getfield 22, 3) := by decide +kernel
theorem dX7_forget_247 : decode cX7_forget 247 = .ok (.aload_n 0, 1) := by decide +kernel
theorem dX7_forget_248 : decode cX7_forget 248 = .ok (.getfield 7, 3) := by decide +kernel
theorem dX7_forget_251 : decode cX7_forget 251 = .ok (.iload_n 2, 1) := by decide +kernel
theorem dX7_forget_252 : decode cX7_forget 252 = .ok (.iconst 2, 1) := by decide +kernel
theorem dX7_forget_253 : decode cX7_forget 253 = .ok (.iadd, 1) := by decide +kernel
theorem dX7_forget_254 : decode cX7_forget 254 = .ok (.iaload, 1) := by decide +kernel
theorem dX7_forget_255 : decode cX7_forget 255 = .ok (.baload, 1) := by decide +kernel
theorem dX7_forget_256 : decode cX7_forget 256 = .ok (.ifCond .eq 8, 3) := by decide +kernel
theorem dX7_forget_259 : decode cX7_forget 259 = .ok (.aload_n 0, 1) := by decide +kernel
theorem dX7_forget_260 : decode cX7_forget 260 = .ok (.iload_n 1, 1) := by decide +kernel
theorem dX7_forget_261 : decode cX7_forget 261 = .ok (.invokevirtual 108, 3) := by decide +kernel
theorem dX7_forget_264 : decode cX7_forget 264 = .ok (.iinc 1 (-1), 3) := by decide +kernel
theorem dX7_forget_267 : decode cX7_forget 267 = .ok (.goto (-61), 3) := by decide +kernel
theorem dX7_forget_270 : decode cX7_forget 270 = .ok (.return_, 1) := by decide +kernel
abbrev rmX7_forget : Room := { frames := 3, cells := 0, slots := 0, locals := 82 }
noncomputable def fX7_forget_264 (n : Nat) (Sh : Sp) (a0 : Nat) (M : Mm) (v1 : Int32) : Option ((Int32 × Mm) ⊕ Mm) :=
  some (Sum.inl ((v1 + (-1)), M))
noncomputable def fX7_forget_259 (n : Nat) (Sh : Sp) (a0 : Nat) (M : Mm) (v1 : Int32) : Option ((Int32 × Mm) ⊕ Mm) :=
  (fX7_drop n Sh M a0 v1).bind fun r1 =>
  fX7_forget_264 n Sh a0 r1 v1
noncomputable def fX7_forget_206b (n : Nat) (Sh : Sp) (a0 : Nat) (M : Mm) (v1 : Int32) : Option ((Int32 × Mm) ⊕ Mm) :=
  if v1 < 0 then
    some (Sum.inr M)
  else
    (fX7_startOf n Sh M v1).bind fun r2 =>
    tF M a0 8 fun b3 =>
    tF M a0 0 fun b4 =>
    aI Sh M b4 0 (r2 + 1) fun x5 =>
    aI Sh M b3 3 x5 fun x6 =>
    if x6 = 0 then
      tF M a0 0 fun b7 =>
      aI Sh M b7 0 (r2 + 2) fun x8 =>
      if x8 = (-1) then
        fX7_forget_264 n Sh a0 M v1
      else
        tF M a0 8 fun b9 =>
        tF M a0 0 fun b10 =>
        aI Sh M b10 0 (r2 + 2) fun x11 =>
        aI Sh M b9 3 x11 fun x12 =>
        if x12 = 0 then
          fX7_forget_264 n Sh a0 M v1
        else
          fX7_forget_259 n Sh a0 M v1
    else
      fX7_forget_259 n Sh a0 M v1
noncomputable def fX7_forget_206 (n : Nat) (Sh : Sp) (a0 : Nat) (M : Mm) (v1 : Int32) : Option Mm :=
  iter n (fun s => fX7_forget_206b n Sh a0 s.2 s.1) (v1, M)
noncomputable def fX7_forget_194 (n : Nat) (Sh : Sp) (a0 : Nat) (M : Mm) (t0 : Nat) (t1 : Int32) (t2 : Int32) : Option Mm :=
  sI Sh M t0 t1 t2 fun M13 =>
  tF M13 a0 0 fun b14 =>
  aI Sh M13 b14 0 720 fun x15 =>
  fX7_forget_206 n Sh a0 M13 (x15 - 1)
noncomputable def fX7_forget_186 (n : Nat) (Sh : Sp) (a0 : Nat) (M : Mm) (t0 : Nat) (t1 : Int32) : Option Mm :=
  tF M a0 0 fun b16 =>
  aI Sh M b16 0 3403 fun x17 =>
  fX7_forget_194 n Sh a0 M t0 t1 x17
noncomputable def fX7_forget_146 (n : Nat) (Sh : Sp) (a0 : Nat) (M : Mm) (t0 : Nat) (t1 : Int32) (t2 : Int32) : Option Mm :=
  sI Sh M t0 t1 t2 fun M18 =>
  tF M18 a0 0 fun b19 =>
  tF M18 a0 0 fun b20 =>
  aI Sh M18 b20 0 3403 fun x21 =>
  if x21 = (-1) then
    fX7_forget_186 n Sh a0 M18 b19 3403
  else
    tF M18 a0 8 fun b22 =>
    tF M18 a0 0 fun b23 =>
    aI Sh M18 b23 0 3403 fun x24 =>
    aI Sh M18 b22 3 x24 fun x25 =>
    if x25 = 0 then
      fX7_forget_186 n Sh a0 M18 b19 3403
    else
      fX7_forget_194 n Sh a0 M18 b19 3403 (-1)
noncomputable def fX7_forget_138 (n : Nat) (Sh : Sp) (a0 : Nat) (M : Mm) (t0 : Nat) (t1 : Int32) : Option Mm :=
  tF M a0 0 fun b26 =>
  aI Sh M b26 0 3402 fun x27 =>
  fX7_forget_146 n Sh a0 M t0 t1 x27
noncomputable def fX7_forget_99 (n : Nat) (Sh : Sp) (a0 : Nat) (M : Mm) : Option Mm :=
  tF M a0 0 fun b28 =>
  tF M a0 0 fun b29 =>
  aI Sh M b29 0 3402 fun x30 =>
  if x30 = (-1) then
    fX7_forget_138 n Sh a0 M b28 3402
  else
    tF M a0 8 fun b31 =>
    tF M a0 0 fun b32 =>
    aI Sh M b32 0 3402 fun x33 =>
    aI Sh M b31 3 x33 fun x34 =>
    if x34 = 0 then
      fX7_forget_138 n Sh a0 M b28 3402
    else
      fX7_forget_146 n Sh a0 M b28 3402 (-1)
noncomputable def fX7_forget_93 (n : Nat) (Sh : Sp) (a0 : Nat) (M : Mm) (v1 : Int32) : Option ((Int32 × Mm) ⊕ Mm) :=
  some (Sum.inl ((v1 + 1), M))
noncomputable def fX7_forget_49 (n : Nat) (Sh : Sp) (a0 : Nat) (M : Mm) (v1 : Int32) : Option ((Int32 × Mm) ⊕ Mm) :=
  (fX7_of n Sh M a0 v1 0).bind fun r35 =>
  if r35 = 1 then
    (fX7_of n Sh M a0 v1 11).bind fun r36 =>
    if r36 = (-1) then
      fX7_forget_93 n Sh a0 M v1
    else
      tF M a0 8 fun b37 =>
      (fX7_of n Sh M a0 v1 11).bind fun r38 =>
      aI Sh M b37 3 r38 fun x39 =>
      if x39 = 0 then
        fX7_forget_93 n Sh a0 M v1
      else
        (fX7_put n Sh M a0 v1 11 (-1)).bind fun r40 =>
        fX7_forget_93 n Sh a0 r40 v1
  else
    fX7_forget_93 n Sh a0 M v1
noncomputable def fX7_forget_2b (n : Nat) (Sh : Sp) (a0 : Nat) (M : Mm) (v1 : Int32) : Option ((Int32 × Mm) ⊕ Mm) :=
  if v1 < 24 then
    (fX7_of n Sh M a0 v1 0).bind fun r41 =>
    if r41 = 1 then
      (fX7_of n Sh M a0 v1 4).bind fun r42 =>
      if r42 = (-1) then
        fX7_forget_49 n Sh a0 M v1
      else
        tF M a0 8 fun b43 =>
        (fX7_of n Sh M a0 v1 4).bind fun r44 =>
        aI Sh M b43 3 r44 fun x45 =>
        if x45 = 0 then
          fX7_forget_49 n Sh a0 M v1
        else
          (fX7_put n Sh M a0 v1 4 (-1)).bind fun r46 =>
          fX7_forget_49 n Sh a0 r46 v1
    else
      fX7_forget_49 n Sh a0 M v1
  else
    (fX7_forget_99 n Sh a0 M).map Sum.inr
noncomputable def fX7_forget_2 (n : Nat) (Sh : Sp) (a0 : Nat) (M : Mm) (v1 : Int32) : Option Mm :=
  iter n (fun s => fX7_forget_2b n Sh a0 s.2 s.1) (v1, M)
noncomputable def fX7_forget (n : Nat) (Sh : Sp) (M : Mm) (a0 : Nat) : Option Mm :=
  fX7_forget_2 n Sh a0 M 0
set_option maxRecDepth 100000 in
set_option maxHeartbeats 4000000 in
theorem kX7_forget {l : Launch} {G : Gt} {n : Nat} {Sh : Sp} {M : Mm} {a0 : Nat} (hT : Sh a0 = some (.inl 7)) {r : Mm} (h : fX7_forget n Sh M a0 = some r) : Ct l yX7_forget cX7_forget 3 none rmX7_forget G Sh M [.ref a0] none r := by
  refine Ct.of (by decide) (Nat.le_of_ble_eq_true rfl) ?_
  intro p e s m args below meth c ls C hK hX hP hS hb hlk hr hl
  replace hl : lv_has ls 3 [(0, .ref a0)] := hl
  have J206 : ∀ (k : Nat) (v1 : Int32) (M : Mm) (H : Heap) (locs : List Loc) (ls : Array Slot), HM G Sh M H → SS G s s.heap.size H locs → lv_has ls 3 [(0, .ref a0), (1, .int v1)] → iter k (fun s => fX7_forget_206b n Sh a0 s.2 s.1) (v1, M) = some r → W p l e rmX7_forget s m args below meth c H locs 0 0 (MQ below (QG G Sh r none) args s rmX7_forget.cells rmX7_forget.slots (AA G)) (F0 m 206 ls []) := by
    intro k
    induction k with
    | zero => intro v1 M H locs ls hP hS hl h; exact (iter_0 h).elim
    | succ k ih1 =>
      intro v1 M H locs ls hP hS hl h
      obtain ⟨z1, h, hz1⟩ := iter_some h
      replace h : fX7_forget_206b n Sh a0 M v1 = some z1 := h
      have J264 : ∀ (M : Mm) (v1 : Int32) (H : Heap) (locs : List Loc) (ls : Array Slot), HM G Sh M H → SS G s s.heap.size H locs → lv_has ls 3 [(0, .ref a0), (1, .int v1)] → fX7_forget_264 n Sh a0 M v1 = some z1 → W p l e rmX7_forget s m args below meth c H locs 0 0 (MQ below (QG G Sh r none) args s rmX7_forget.cells rmX7_forget.slots (AA G)) (F0 m 264 ls []) := by
        intro M v1 H locs ls hP hS hl h
        unfold fX7_forget_264 at h
        refine lv_iinc (v := (v1 + (-1))) (lv' := [(1, .int (v1 + (-1))), (0, .ref a0)]) C.1 C.2.1 dX7_forget_264 hl (k := 1) rfl rfl (by decide) rfl (fun ls hl => ?_)
        refine lv_goto (tgt := 206) C.1 C.2.1 dX7_forget_267 (by decide) ?_
        have e := Option.some.inj h
        rw [← e] at hz1
        exact ih1 ((v1 + (-1))) M _ _ _ hP hS (lv_sub hl [1, 0] rfl) (itK_inl hz1)
      have J259 : ∀ (M : Mm) (v1 : Int32) (H : Heap) (locs : List Loc) (ls : Array Slot), HM G Sh M H → SS G s s.heap.size H locs → lv_has ls 3 [(0, .ref a0), (1, .int v1)] → fX7_forget_259 n Sh a0 M v1 = some z1 → W p l e rmX7_forget s m args below meth c H locs 0 0 (MQ below (QG G Sh r none) args s rmX7_forget.cells rmX7_forget.slots (AA G)) (F0 m 259 ls []) := by
        intro M v1 H locs ls hP hS hl h
        unfold fX7_forget_259 at h
        refine lv_aload_n C.1 C.2.1 dX7_forget_259 rfl (lv_at hl 0 rfl) ?_
        refine lv_iload_n C.1 C.2.1 dX7_forget_260 rfl (lv_at hl 1 rfl) ?_
        obtain ⟨r1, hc, h⟩ := bS h
        refine r_V0 C hK hX hb hP hS hl.1 (kX7_drop (hT) hc) hT cl_7 wd_1240 mo_X7_drop wd_1242 wd_33 ⟨Nat.le_of_ble_eq_true rfl, Nat.le_of_ble_eq_true rfl⟩ ⟨Nat.le_of_ble_eq_true rfl, Nat.le_of_ble_eq_true rfl⟩ rfl (rest := []) rfl (Nat.le_of_ble_eq_true rfl) dX7_forget_261 (fun H locs hP hS => ?_)
        exact J264 (r1) (v1) _ _ _ hP hS (lv_sub hl [0, 1] rfl) h
      unfold fX7_forget_206b at h
      refine lv_iload_n C.1 C.2.1 dX7_forget_206 rfl (lv_at hl 1 rfl) ?_
      refine b_lt (tgt := 270) C dX7_forget_207 (by decide) h (fun h => ?_) (fun h => ?_)
      · have e := Option.some.inj h
        rw [← e] at hz1
        replace e := itK_inr hz1
        exact q_v C hlk hP hS hr rfl e.symm dX7_forget_270
      · refine lv_iload_n C.1 C.2.1 dX7_forget_210 rfl (lv_at hl 1 rfl) ?_
        obtain ⟨r2, hc, h⟩ := bS h
        refine r_S1 C hK hX hb hP hS hl.1 (kX7_startOf hc) wd_1237 mo_X7_startOf wd_1238 ⟨Nat.le_of_ble_eq_true rfl, Nat.le_of_ble_eq_true rfl⟩ ⟨Nat.le_of_ble_eq_true rfl, Nat.le_of_ble_eq_true rfl⟩ rfl (rest := []) rfl (Nat.le_of_ble_eq_true rfl) dX7_forget_211 (fun H locs hP hS => ?_)
        refine lv_istore_n (lv' := [(2, .int r2), (0, .ref a0), (1, .int v1)]) C.1 C.2.1 dX7_forget_214 rfl hl (by decide) rfl (fun ls hl => ?_)
        refine lv_aload_n C.1 C.2.1 dX7_forget_215 rfl (lv_at hl 1 rfl) ?_
        refine r_tF C hK hP hT cl_7 (k := 8) (by decide) wd_1152 rfl dX7_forget_216 h (fun b3 h => ?_)
        refine lv_aload_n C.1 C.2.1 dX7_forget_219 rfl (lv_at hl 1 rfl) ?_
        refine r_tF C hK hP hT cl_7 (k := 0) (by decide) wd_1144 rfl dX7_forget_220 h (fun b4 h => ?_)
        refine lv_iload_n C.1 C.2.1 dX7_forget_223 rfl (lv_at hl 0 rfl) ?_
        refine lv_iconst (v := 1) C.1 C.2.1 dX7_forget_224 (by decide) ?_
        refine lv_iadd C.1 C.2.1 dX7_forget_225 ?_
        refine r_aI C hK hP dX7_forget_226 h (fun x5 h => ?_)
        refine r_aZ C hK hP dX7_forget_227 h (fun x6 h => ?_)
        refine b_ne (tgt := 259) C dX7_forget_228 (by decide) h (fun h => ?_) (fun h => ?_)
        · refine lv_aload_n C.1 C.2.1 dX7_forget_231 rfl (lv_at hl 1 rfl) ?_
          refine r_tF C hK hP hT cl_7 (k := 0) (by decide) wd_1144 rfl dX7_forget_232 h (fun b7 h => ?_)
          refine lv_iload_n C.1 C.2.1 dX7_forget_235 rfl (lv_at hl 0 rfl) ?_
          refine lv_iconst (v := 2) C.1 C.2.1 dX7_forget_236 (by decide) ?_
          refine lv_iadd C.1 C.2.1 dX7_forget_237 ?_
          refine r_aI C hK hP dX7_forget_238 h (fun x8 h => ?_)
          refine lv_iconst (v := (-1)) C.1 C.2.1 dX7_forget_239 (by decide) ?_
          refine b_ieq (tgt := 264) C dX7_forget_240 (by decide) h (fun h => ?_) (fun h => ?_)
          · exact J264 (M) (v1) _ _ _ hP hS (lv_sub hl [1, 2] rfl) h
          · refine lv_aload_n C.1 C.2.1 dX7_forget_243 rfl (lv_at hl 1 rfl) ?_
            refine r_tF C hK hP hT cl_7 (k := 8) (by decide) wd_1152 rfl dX7_forget_244 h (fun b9 h => ?_)
            refine lv_aload_n C.1 C.2.1 dX7_forget_247 rfl (lv_at hl 1 rfl) ?_
            refine r_tF C hK hP hT cl_7 (k := 0) (by decide) wd_1144 rfl dX7_forget_248 h (fun b10 h => ?_)
            refine lv_iload_n C.1 C.2.1 dX7_forget_251 rfl (lv_at hl 0 rfl) ?_
            refine lv_iconst (v := 2) C.1 C.2.1 dX7_forget_252 (by decide) ?_
            refine lv_iadd C.1 C.2.1 dX7_forget_253 ?_
            refine r_aI C hK hP dX7_forget_254 h (fun x11 h => ?_)
            refine r_aZ C hK hP dX7_forget_255 h (fun x12 h => ?_)
            refine b_eq (tgt := 264) C dX7_forget_256 (by decide) h (fun h => ?_) (fun h => ?_)
            · exact J264 (M) (v1) _ _ _ hP hS (lv_sub hl [1, 2] rfl) h
            · exact J259 (M) (v1) _ _ _ hP hS (lv_sub hl [1, 2] rfl) h
        · exact J259 (M) (v1) _ _ _ hP hS (lv_sub hl [1, 2] rfl) h
  have J194 : ∀ (M : Mm) (t0 : Nat) (t1 : Int32) (t2 : Int32) (H : Heap) (locs : List Loc) (ls : Array Slot), HM G Sh M H → SS G s s.heap.size H locs → lv_has ls 3 [(0, .ref a0)] → fX7_forget_194 n Sh a0 M t0 t1 t2 = some r → W p l e rmX7_forget s m args below meth c H locs 0 0 (MQ below (QG G Sh r none) args s rmX7_forget.cells rmX7_forget.slots (AA G)) (F0 m 194 ls [.int t2, .int t1, .ref t0]) := by
    intro M t0 t1 t2 H locs ls hP hS hl h
    unfold fX7_forget_194 at h
    refine r_sI C hK hP hS dX7_forget_194 h (fun M13 H locs h hP hS => ?_)
    refine lv_aload_n C.1 C.2.1 dX7_forget_195 rfl (lv_at hl 0 rfl) ?_
    refine r_tF C hK hP hT cl_7 (k := 0) (by decide) wd_1144 rfl dX7_forget_196 h (fun b14 h => ?_)
    refine lv_sipush (v := 720) C.1 C.2.1 dX7_forget_199 (by decide) ?_
    refine r_aI C hK hP dX7_forget_202 h (fun x15 h => ?_)
    refine lv_iconst (v := 1) C.1 C.2.1 dX7_forget_203 (by decide) ?_
    refine lv_isub C.1 C.2.1 dX7_forget_204 ?_
    refine lv_istore_n (lv' := [(1, .int (x15 - 1)), (0, .ref a0)]) C.1 C.2.1 dX7_forget_205 rfl hl (by decide) rfl (fun ls hl => ?_)
    exact J206  n ((x15 - 1)) M13 _ _ _ hP hS (lv_sub hl [1, 0] rfl) h
  have J186 : ∀ (M : Mm) (t0 : Nat) (t1 : Int32) (H : Heap) (locs : List Loc) (ls : Array Slot), HM G Sh M H → SS G s s.heap.size H locs → lv_has ls 3 [(0, .ref a0)] → fX7_forget_186 n Sh a0 M t0 t1 = some r → W p l e rmX7_forget s m args below meth c H locs 0 0 (MQ below (QG G Sh r none) args s rmX7_forget.cells rmX7_forget.slots (AA G)) (F0 m 186 ls [.int t1, .ref t0]) := by
    intro M t0 t1 H locs ls hP hS hl h
    unfold fX7_forget_186 at h
    refine lv_aload_n C.1 C.2.1 dX7_forget_186 rfl (lv_at hl 0 rfl) ?_
    refine r_tF C hK hP hT cl_7 (k := 0) (by decide) wd_1144 rfl dX7_forget_187 h (fun b16 h => ?_)
    refine lv_sipush (v := 3403) C.1 C.2.1 dX7_forget_190 (by decide) ?_
    refine r_aI C hK hP dX7_forget_193 h (fun x17 h => ?_)
    exact J194 (M) (t0) (t1) (x17) _ _ _ hP hS (lv_sub hl [0] rfl) h
  have J146 : ∀ (M : Mm) (t0 : Nat) (t1 : Int32) (t2 : Int32) (H : Heap) (locs : List Loc) (ls : Array Slot), HM G Sh M H → SS G s s.heap.size H locs → lv_has ls 3 [(0, .ref a0)] → fX7_forget_146 n Sh a0 M t0 t1 t2 = some r → W p l e rmX7_forget s m args below meth c H locs 0 0 (MQ below (QG G Sh r none) args s rmX7_forget.cells rmX7_forget.slots (AA G)) (F0 m 146 ls [.int t2, .int t1, .ref t0]) := by
    intro M t0 t1 t2 H locs ls hP hS hl h
    unfold fX7_forget_146 at h
    refine r_sI C hK hP hS dX7_forget_146 h (fun M18 H locs h hP hS => ?_)
    refine lv_aload_n C.1 C.2.1 dX7_forget_147 rfl (lv_at hl 0 rfl) ?_
    refine r_tF C hK hP hT cl_7 (k := 0) (by decide) wd_1144 rfl dX7_forget_148 h (fun b19 h => ?_)
    refine lv_sipush (v := 3403) C.1 C.2.1 dX7_forget_151 (by decide) ?_
    refine lv_aload_n C.1 C.2.1 dX7_forget_154 rfl (lv_at hl 0 rfl) ?_
    refine r_tF C hK hP hT cl_7 (k := 0) (by decide) wd_1144 rfl dX7_forget_155 h (fun b20 h => ?_)
    refine lv_sipush (v := 3403) C.1 C.2.1 dX7_forget_158 (by decide) ?_
    refine r_aI C hK hP dX7_forget_161 h (fun x21 h => ?_)
    refine lv_iconst (v := (-1)) C.1 C.2.1 dX7_forget_162 (by decide) ?_
    refine b_ieq (tgt := 186) C dX7_forget_163 (by decide) h (fun h => ?_) (fun h => ?_)
    · exact J186 (M18) (b19) (3403) _ _ _ hP hS (lv_sub hl [0] rfl) h
    · refine lv_aload_n C.1 C.2.1 dX7_forget_166 rfl (lv_at hl 0 rfl) ?_
      refine r_tF C hK hP hT cl_7 (k := 8) (by decide) wd_1152 rfl dX7_forget_167 h (fun b22 h => ?_)
      refine lv_aload_n C.1 C.2.1 dX7_forget_170 rfl (lv_at hl 0 rfl) ?_
      refine r_tF C hK hP hT cl_7 (k := 0) (by decide) wd_1144 rfl dX7_forget_171 h (fun b23 h => ?_)
      refine lv_sipush (v := 3403) C.1 C.2.1 dX7_forget_174 (by decide) ?_
      refine r_aI C hK hP dX7_forget_177 h (fun x24 h => ?_)
      refine r_aZ C hK hP dX7_forget_178 h (fun x25 h => ?_)
      refine b_eq (tgt := 186) C dX7_forget_179 (by decide) h (fun h => ?_) (fun h => ?_)
      · exact J186 (M18) (b19) (3403) _ _ _ hP hS (lv_sub hl [0] rfl) h
      · refine lv_iconst (v := (-1)) C.1 C.2.1 dX7_forget_182 (by decide) ?_
        refine lv_goto (tgt := 194) C.1 C.2.1 dX7_forget_183 (by decide) ?_
        exact J194 (M18) (b19) (3403) ((-1)) _ _ _ hP hS (lv_sub hl [0] rfl) h
  have J138 : ∀ (M : Mm) (t0 : Nat) (t1 : Int32) (H : Heap) (locs : List Loc) (ls : Array Slot), HM G Sh M H → SS G s s.heap.size H locs → lv_has ls 3 [(0, .ref a0)] → fX7_forget_138 n Sh a0 M t0 t1 = some r → W p l e rmX7_forget s m args below meth c H locs 0 0 (MQ below (QG G Sh r none) args s rmX7_forget.cells rmX7_forget.slots (AA G)) (F0 m 138 ls [.int t1, .ref t0]) := by
    intro M t0 t1 H locs ls hP hS hl h
    unfold fX7_forget_138 at h
    refine lv_aload_n C.1 C.2.1 dX7_forget_138 rfl (lv_at hl 0 rfl) ?_
    refine r_tF C hK hP hT cl_7 (k := 0) (by decide) wd_1144 rfl dX7_forget_139 h (fun b26 h => ?_)
    refine lv_sipush (v := 3402) C.1 C.2.1 dX7_forget_142 (by decide) ?_
    refine r_aI C hK hP dX7_forget_145 h (fun x27 h => ?_)
    exact J146 (M) (t0) (t1) (x27) _ _ _ hP hS (lv_sub hl [0] rfl) h
  have J99 : ∀ (M : Mm) (H : Heap) (locs : List Loc) (ls : Array Slot), HM G Sh M H → SS G s s.heap.size H locs → lv_has ls 3 [(0, .ref a0)] → fX7_forget_99 n Sh a0 M = some r → W p l e rmX7_forget s m args below meth c H locs 0 0 (MQ below (QG G Sh r none) args s rmX7_forget.cells rmX7_forget.slots (AA G)) (F0 m 99 ls []) := by
    intro M H locs ls hP hS hl h
    unfold fX7_forget_99 at h
    refine lv_aload_n C.1 C.2.1 dX7_forget_99 rfl (lv_at hl 0 rfl) ?_
    refine r_tF C hK hP hT cl_7 (k := 0) (by decide) wd_1144 rfl dX7_forget_100 h (fun b28 h => ?_)
    refine lv_sipush (v := 3402) C.1 C.2.1 dX7_forget_103 (by decide) ?_
    refine lv_aload_n C.1 C.2.1 dX7_forget_106 rfl (lv_at hl 0 rfl) ?_
    refine r_tF C hK hP hT cl_7 (k := 0) (by decide) wd_1144 rfl dX7_forget_107 h (fun b29 h => ?_)
    refine lv_sipush (v := 3402) C.1 C.2.1 dX7_forget_110 (by decide) ?_
    refine r_aI C hK hP dX7_forget_113 h (fun x30 h => ?_)
    refine lv_iconst (v := (-1)) C.1 C.2.1 dX7_forget_114 (by decide) ?_
    refine b_ieq (tgt := 138) C dX7_forget_115 (by decide) h (fun h => ?_) (fun h => ?_)
    · exact J138 (M) (b28) (3402) _ _ _ hP hS (lv_sub hl [0] rfl) h
    · refine lv_aload_n C.1 C.2.1 dX7_forget_118 rfl (lv_at hl 0 rfl) ?_
      refine r_tF C hK hP hT cl_7 (k := 8) (by decide) wd_1152 rfl dX7_forget_119 h (fun b31 h => ?_)
      refine lv_aload_n C.1 C.2.1 dX7_forget_122 rfl (lv_at hl 0 rfl) ?_
      refine r_tF C hK hP hT cl_7 (k := 0) (by decide) wd_1144 rfl dX7_forget_123 h (fun b32 h => ?_)
      refine lv_sipush (v := 3402) C.1 C.2.1 dX7_forget_126 (by decide) ?_
      refine r_aI C hK hP dX7_forget_129 h (fun x33 h => ?_)
      refine r_aZ C hK hP dX7_forget_130 h (fun x34 h => ?_)
      refine b_eq (tgt := 138) C dX7_forget_131 (by decide) h (fun h => ?_) (fun h => ?_)
      · exact J138 (M) (b28) (3402) _ _ _ hP hS (lv_sub hl [0] rfl) h
      · refine lv_iconst (v := (-1)) C.1 C.2.1 dX7_forget_134 (by decide) ?_
        refine lv_goto (tgt := 146) C.1 C.2.1 dX7_forget_135 (by decide) ?_
        exact J146 (M) (b28) (3402) ((-1)) _ _ _ hP hS (lv_sub hl [0] rfl) h
  have J2 : ∀ (k : Nat) (v1 : Int32) (M : Mm) (H : Heap) (locs : List Loc) (ls : Array Slot), HM G Sh M H → SS G s s.heap.size H locs → lv_has ls 3 [(0, .ref a0), (1, .int v1)] → iter k (fun s => fX7_forget_2b n Sh a0 s.2 s.1) (v1, M) = some r → W p l e rmX7_forget s m args below meth c H locs 0 0 (MQ below (QG G Sh r none) args s rmX7_forget.cells rmX7_forget.slots (AA G)) (F0 m 2 ls []) := by
    intro k
    induction k with
    | zero => intro v1 M H locs ls hP hS hl h; exact (iter_0 h).elim
    | succ k ih1 =>
      intro v1 M H locs ls hP hS hl h
      obtain ⟨z1, h, hz1⟩ := iter_some h
      replace h : fX7_forget_2b n Sh a0 M v1 = some z1 := h
      have J93 : ∀ (M : Mm) (v1 : Int32) (H : Heap) (locs : List Loc) (ls : Array Slot), HM G Sh M H → SS G s s.heap.size H locs → lv_has ls 3 [(0, .ref a0), (1, .int v1)] → fX7_forget_93 n Sh a0 M v1 = some z1 → W p l e rmX7_forget s m args below meth c H locs 0 0 (MQ below (QG G Sh r none) args s rmX7_forget.cells rmX7_forget.slots (AA G)) (F0 m 93 ls []) := by
        intro M v1 H locs ls hP hS hl h
        unfold fX7_forget_93 at h
        refine lv_iinc (v := (v1 + 1)) (lv' := [(1, .int (v1 + 1)), (0, .ref a0)]) C.1 C.2.1 dX7_forget_93 hl (k := 1) rfl rfl (by decide) rfl (fun ls hl => ?_)
        refine lv_goto (tgt := 2) C.1 C.2.1 dX7_forget_96 (by decide) ?_
        have e := Option.some.inj h
        rw [← e] at hz1
        exact ih1 ((v1 + 1)) M _ _ _ hP hS (lv_sub hl [1, 0] rfl) (itK_inl hz1)
      have J49 : ∀ (M : Mm) (v1 : Int32) (H : Heap) (locs : List Loc) (ls : Array Slot), HM G Sh M H → SS G s s.heap.size H locs → lv_has ls 3 [(0, .ref a0), (1, .int v1)] → fX7_forget_49 n Sh a0 M v1 = some z1 → W p l e rmX7_forget s m args below meth c H locs 0 0 (MQ below (QG G Sh r none) args s rmX7_forget.cells rmX7_forget.slots (AA G)) (F0 m 49 ls []) := by
        intro M v1 H locs ls hP hS hl h
        unfold fX7_forget_49 at h
        refine lv_aload_n C.1 C.2.1 dX7_forget_49 rfl (lv_at hl 0 rfl) ?_
        refine lv_iload_n C.1 C.2.1 dX7_forget_50 rfl (lv_at hl 1 rfl) ?_
        refine lv_iconst (v := 0) C.1 C.2.1 dX7_forget_51 (by decide) ?_
        obtain ⟨r35, hc, h⟩ := bS h
        refine r_V1 C hK hX hb hP hS hl.1 (kX7_of (hT) hc) hT cl_7 wd_1197 mo_X7_of wd_1199 wd_24 ⟨Nat.le_of_ble_eq_true rfl, Nat.le_of_ble_eq_true rfl⟩ ⟨Nat.le_of_ble_eq_true rfl, Nat.le_of_ble_eq_true rfl⟩ rfl (rest := []) rfl (Nat.le_of_ble_eq_true rfl) dX7_forget_52 (fun H locs hP hS => ?_)
        refine lv_iconst (v := 1) C.1 C.2.1 dX7_forget_55 (by decide) ?_
        refine b_ine (tgt := 93) C dX7_forget_56 (by decide) h (fun h => ?_) (fun h => ?_)
        · refine lv_aload_n C.1 C.2.1 dX7_forget_59 rfl (lv_at hl 0 rfl) ?_
          refine lv_iload_n C.1 C.2.1 dX7_forget_60 rfl (lv_at hl 1 rfl) ?_
          refine lv_bipush (v := 11) C.1 C.2.1 dX7_forget_61 (by decide) ?_
          obtain ⟨r36, hc, h⟩ := bS h
          refine r_V1 C hK hX hb hP hS hl.1 (kX7_of (hT) hc) hT cl_7 wd_1197 mo_X7_of wd_1199 wd_24 ⟨Nat.le_of_ble_eq_true rfl, Nat.le_of_ble_eq_true rfl⟩ ⟨Nat.le_of_ble_eq_true rfl, Nat.le_of_ble_eq_true rfl⟩ rfl (rest := []) rfl (Nat.le_of_ble_eq_true rfl) dX7_forget_63 (fun H locs hP hS => ?_)
          refine lv_iconst (v := (-1)) C.1 C.2.1 dX7_forget_66 (by decide) ?_
          refine b_ieq (tgt := 93) C dX7_forget_67 (by decide) h (fun h => ?_) (fun h => ?_)
          · exact J93 (M) (v1) _ _ _ hP hS (lv_sub hl [0, 1] rfl) h
          · refine lv_aload_n C.1 C.2.1 dX7_forget_70 rfl (lv_at hl 0 rfl) ?_
            refine r_tF C hK hP hT cl_7 (k := 8) (by decide) wd_1152 rfl dX7_forget_71 h (fun b37 h => ?_)
            refine lv_aload_n C.1 C.2.1 dX7_forget_74 rfl (lv_at hl 0 rfl) ?_
            refine lv_iload_n C.1 C.2.1 dX7_forget_75 rfl (lv_at hl 1 rfl) ?_
            refine lv_bipush (v := 11) C.1 C.2.1 dX7_forget_76 (by decide) ?_
            obtain ⟨r38, hc, h⟩ := bS h
            refine r_V1 C hK hX hb hP hS hl.1 (kX7_of (hT) hc) hT cl_7 wd_1197 mo_X7_of wd_1199 wd_24 ⟨Nat.le_of_ble_eq_true rfl, Nat.le_of_ble_eq_true rfl⟩ ⟨Nat.le_of_ble_eq_true rfl, Nat.le_of_ble_eq_true rfl⟩ rfl (rest := [.ref b37]) rfl (Nat.le_of_ble_eq_true rfl) dX7_forget_78 (fun H locs hP hS => ?_)
            refine r_aZ C hK hP dX7_forget_81 h (fun x39 h => ?_)
            refine b_eq (tgt := 93) C dX7_forget_82 (by decide) h (fun h => ?_) (fun h => ?_)
            · exact J93 (M) (v1) _ _ _ hP hS (lv_sub hl [0, 1] rfl) h
            · refine lv_aload_n C.1 C.2.1 dX7_forget_85 rfl (lv_at hl 0 rfl) ?_
              refine lv_iload_n C.1 C.2.1 dX7_forget_86 rfl (lv_at hl 1 rfl) ?_
              refine lv_bipush (v := 11) C.1 C.2.1 dX7_forget_87 (by decide) ?_
              refine lv_iconst (v := (-1)) C.1 C.2.1 dX7_forget_89 (by decide) ?_
              obtain ⟨r40, hc, h⟩ := bS h
              refine r_V0 C hK hX hb hP hS hl.1 (kX7_put (hT) hc) hT cl_7 wd_1213 mo_X7_put wd_1215 wd_28 ⟨Nat.le_of_ble_eq_true rfl, Nat.le_of_ble_eq_true rfl⟩ ⟨Nat.le_of_ble_eq_true rfl, Nat.le_of_ble_eq_true rfl⟩ rfl (rest := []) rfl (Nat.le_of_ble_eq_true rfl) dX7_forget_90 (fun H locs hP hS => ?_)
              exact J93 (r40) (v1) _ _ _ hP hS (lv_sub hl [0, 1] rfl) h
        · exact J93 (M) (v1) _ _ _ hP hS (lv_sub hl [0, 1] rfl) h
      unfold fX7_forget_2b at h
      refine lv_iload_n C.1 C.2.1 dX7_forget_2 rfl (lv_at hl 1 rfl) ?_
      refine lv_bipush (v := 24) C.1 C.2.1 dX7_forget_3 (by decide) ?_
      refine b_ige (tgt := 99) C dX7_forget_5 (by decide) h (fun h => ?_) (fun h => ?_)
      · refine lv_aload_n C.1 C.2.1 dX7_forget_8 rfl (lv_at hl 0 rfl) ?_
        refine lv_iload_n C.1 C.2.1 dX7_forget_9 rfl (lv_at hl 1 rfl) ?_
        refine lv_iconst (v := 0) C.1 C.2.1 dX7_forget_10 (by decide) ?_
        obtain ⟨r41, hc, h⟩ := bS h
        refine r_V1 C hK hX hb hP hS hl.1 (kX7_of (hT) hc) hT cl_7 wd_1197 mo_X7_of wd_1199 wd_24 ⟨Nat.le_of_ble_eq_true rfl, Nat.le_of_ble_eq_true rfl⟩ ⟨Nat.le_of_ble_eq_true rfl, Nat.le_of_ble_eq_true rfl⟩ rfl (rest := []) rfl (Nat.le_of_ble_eq_true rfl) dX7_forget_11 (fun H locs hP hS => ?_)
        refine lv_iconst (v := 1) C.1 C.2.1 dX7_forget_14 (by decide) ?_
        refine b_ine (tgt := 49) C dX7_forget_15 (by decide) h (fun h => ?_) (fun h => ?_)
        · refine lv_aload_n C.1 C.2.1 dX7_forget_18 rfl (lv_at hl 0 rfl) ?_
          refine lv_iload_n C.1 C.2.1 dX7_forget_19 rfl (lv_at hl 1 rfl) ?_
          refine lv_iconst (v := 4) C.1 C.2.1 dX7_forget_20 (by decide) ?_
          obtain ⟨r42, hc, h⟩ := bS h
          refine r_V1 C hK hX hb hP hS hl.1 (kX7_of (hT) hc) hT cl_7 wd_1197 mo_X7_of wd_1199 wd_24 ⟨Nat.le_of_ble_eq_true rfl, Nat.le_of_ble_eq_true rfl⟩ ⟨Nat.le_of_ble_eq_true rfl, Nat.le_of_ble_eq_true rfl⟩ rfl (rest := []) rfl (Nat.le_of_ble_eq_true rfl) dX7_forget_21 (fun H locs hP hS => ?_)
          refine lv_iconst (v := (-1)) C.1 C.2.1 dX7_forget_24 (by decide) ?_
          refine b_ieq (tgt := 49) C dX7_forget_25 (by decide) h (fun h => ?_) (fun h => ?_)
          · exact J49 (M) (v1) _ _ _ hP hS (lv_sub hl [0, 1] rfl) h
          · refine lv_aload_n C.1 C.2.1 dX7_forget_28 rfl (lv_at hl 0 rfl) ?_
            refine r_tF C hK hP hT cl_7 (k := 8) (by decide) wd_1152 rfl dX7_forget_29 h (fun b43 h => ?_)
            refine lv_aload_n C.1 C.2.1 dX7_forget_32 rfl (lv_at hl 0 rfl) ?_
            refine lv_iload_n C.1 C.2.1 dX7_forget_33 rfl (lv_at hl 1 rfl) ?_
            refine lv_iconst (v := 4) C.1 C.2.1 dX7_forget_34 (by decide) ?_
            obtain ⟨r44, hc, h⟩ := bS h
            refine r_V1 C hK hX hb hP hS hl.1 (kX7_of (hT) hc) hT cl_7 wd_1197 mo_X7_of wd_1199 wd_24 ⟨Nat.le_of_ble_eq_true rfl, Nat.le_of_ble_eq_true rfl⟩ ⟨Nat.le_of_ble_eq_true rfl, Nat.le_of_ble_eq_true rfl⟩ rfl (rest := [.ref b43]) rfl (Nat.le_of_ble_eq_true rfl) dX7_forget_35 (fun H locs hP hS => ?_)
            refine r_aZ C hK hP dX7_forget_38 h (fun x45 h => ?_)
            refine b_eq (tgt := 49) C dX7_forget_39 (by decide) h (fun h => ?_) (fun h => ?_)
            · exact J49 (M) (v1) _ _ _ hP hS (lv_sub hl [0, 1] rfl) h
            · refine lv_aload_n C.1 C.2.1 dX7_forget_42 rfl (lv_at hl 0 rfl) ?_
              refine lv_iload_n C.1 C.2.1 dX7_forget_43 rfl (lv_at hl 1 rfl) ?_
              refine lv_iconst (v := 4) C.1 C.2.1 dX7_forget_44 (by decide) ?_
              refine lv_iconst (v := (-1)) C.1 C.2.1 dX7_forget_45 (by decide) ?_
              obtain ⟨r46, hc, h⟩ := bS h
              refine r_V0 C hK hX hb hP hS hl.1 (kX7_put (hT) hc) hT cl_7 wd_1213 mo_X7_put wd_1215 wd_28 ⟨Nat.le_of_ble_eq_true rfl, Nat.le_of_ble_eq_true rfl⟩ ⟨Nat.le_of_ble_eq_true rfl, Nat.le_of_ble_eq_true rfl⟩ rfl (rest := []) rfl (Nat.le_of_ble_eq_true rfl) dX7_forget_46 (fun H locs hP hS => ?_)
              exact J49 (r46) (v1) _ _ _ hP hS (lv_sub hl [0, 1] rfl) h
        · exact J49 (M) (v1) _ _ _ hP hS (lv_sub hl [0, 1] rfl) h
      · obtain ⟨w1, h, e⟩ := mS h
        rw [← e] at hz1
        replace e := itK_inr hz1
        rw [e] at h
        exact J99 (M) _ _ _ hP hS (lv_sub hl [0] rfl) h
  unfold fX7_forget at h
  refine lv_iconst (v := 0) C.1 C.2.1 dX7_forget_0 (by decide) ?_
  refine lv_istore_n (lv' := [(1, .int 0), (0, .ref a0)]) C.1 C.2.1 dX7_forget_1 rfl hl (by decide) rfl (fun ls hl => ?_)
  exact J2  n (0) M _ _ _ hP hS (lv_sub hl [1, 0] rfl) h
