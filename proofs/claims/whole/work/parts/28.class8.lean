theorem dX6_mixQueue_0 : decode cX6_mixQueue 0 = .ok (.aload_n 0, 1) := by decide +kernel
theorem dX6_mixQueue_1 : decode cX6_mixQueue 1 = .ok (.getfield 10, 3) := by decide +kernel
theorem dX6_mixQueue_4 : decode cX6_mixQueue 4 = .ok (.getfield 243, 3) := by decide +kernel
theorem dX6_mixQueue_7 : decode cX6_mixQueue 7 = .ok (.astore_n 3, 1) := by decide +kernel
theorem dX6_mixQueue_8 : decode cX6_mixQueue 8 = .ok (.lload_n 1, 1) := by decide +kernel
theorem dX6_mixQueue_9 : decode cX6_mixQueue 9 = .ok (.aload_n 3, 1) := by decide +kernel
theorem dX6_mixQueue_10 : decode cX6_mixQueue 10 = .ok (.getfield 247, 3) := by decide +kernel
theorem dX6_mixQueue_13 : decode cX6_mixQueue 13 = .ok (.i2l, 1) := by decide +kernel
theorem dX6_mixQueue_14 : decode cX6_mixQueue 14 = .ok (.invokestatic 314, 3) := by decide +kernel
theorem dX6_mixQueue_17 : decode cX6_mixQueue 17 = .ok (.lstore 4, 2) := by decide +kernel
theorem dX6_mixQueue_19 : decode cX6_mixQueue 19 = .ok (.iconst 0, 1) := by decide +kernel
theorem dX6_mixQueue_20 : decode cX6_mixQueue 20 = .ok (.istore 6, 2) := by decide +kernel
theorem dX6_mixQueue_22 : decode cX6_mixQueue 22 = .ok (.iload 6, 2) := by decide +kernel
theorem dX6_mixQueue_24 : decode cX6_mixQueue 24 = .ok (.aload_n 3, 1) := by decide +kernel
theorem dX6_mixQueue_25 : decode cX6_mixQueue 25 = .ok (.getfield 247, 3) := by decide +kernel
theorem dX6_mixQueue_28 : decode cX6_mixQueue 28 = .ok (.if_icmp .ge 81, 3) := by decide +kernel
theorem dX6_mixQueue_31 : decode cX6_mixQueue 31 = .ok (.iconst 0, 1) := by decide +kernel
theorem dX6_mixQueue_32 : decode cX6_mixQueue 32 = .ok (.istore 7, 2) := by decide +kernel
theorem dX6_mixQueue_34 : decode cX6_mixQueue 34 = .ok (.iload 7, 2) := by decide +kernel
theorem dX6_mixQueue_36 : decode cX6_mixQueue 36 = .ok (.iconst 4, 1) := by decide +kernel
theorem dX6_mixQueue_37 : decode cX6_mixQueue 37 = .ok (.if_icmp .ge 25, 3) := by decide +kernel
theorem dX6_mixQueue_40 : decode cX6_mixQueue 40 = .ok (.lload 4, 2) := by decide +kernel
theorem dX6_mixQueue_42 : decode cX6_mixQueue 42 = .ok (.aload_n 3, 1) := by decide +kernel
theorem dX6_mixQueue_43 : decode cX6_mixQueue 43 = .ok (.iload 6, 2) := by decide +kernel
theorem dX6_mixQueue_45 : decode cX6_mixQueue 45 = .ok (.iload 7, 2) := by decide +kernel
theorem dX6_mixQueue_47 : decode cX6_mixQueue 47 = .ok (.invokevirtual 252, 3) := by decide +kernel
theorem dX6_mixQueue_50 : decode cX6_mixQueue 50 = .ok (.i2l, 1) := by decide +kernel
theorem dX6_mixQueue_51 : decode cX6_mixQueue 51 = .ok (.invokestatic 314, 3) := by decide +kernel
theorem dX6_mixQueue_54 : decode cX6_mixQueue 54 = .ok (.lstore 4, 2) := by decide +kernel
theorem dX6_mixQueue_56 : decode cX6_mixQueue 56 = .ok (.iinc 7 1, 3) := by decide +kernel
theorem dX6_mixQueue_59 : decode cX6_mixQueue 59 = .ok (.goto (-25), 3) := by decide +kernel
theorem dX6_mixQueue_62 : decode cX6_mixQueue 62 = .ok (.aload_n 3, 1) := by decide +kernel
theorem dX6_mixQueue_63 : decode cX6_mixQueue 63 = .ok (.iload 6, 2) := by decide +kernel
theorem dX6_mixQueue_65 : decode cX6_mixQueue 65 = .ok (.iconst 3, 1) := by decide +kernel
theorem dX6_mixQueue_66 : decode cX6_mixQueue 66 = .ok (.invokevirtual 252, 3) := by decide +kernel
theorem dX6_mixQueue_69 : decode cX6_mixQueue 69 = .ok (.istore 7, 2) := by decide +kernel
theorem dX6_mixQueue_71 : decode cX6_mixQueue 71 = .ok (.iconst 0, 1) := by decide +kernel
theorem dX6_mixQueue_72 : decode cX6_mixQueue 72 = .ok (.istore 8, 2) := by decide +kernel
theorem dX6_mixQueue_74 : decode cX6_mixQueue 74 = .ok (.iload 8, 2) := by decide +kernel
theorem dX6_mixQueue_76 : decode cX6_mixQueue 76 = .ok (.iload 7, 2) := by decide +kernel
theorem dX6_mixQueue_78 : decode cX6_mixQueue 78 = .ok (.if_icmp .ge 25, 3) := by decide +kernel
theorem dX6_mixQueue_81 : decode cX6_mixQueue 81 = .ok (.lload 4, 2) := by decide +kernel
theorem dX6_mixQueue_83 : decode cX6_mixQueue 83 = .ok (.aload_n 3, 1) := by decide +kernel
theorem dX6_mixQueue_84 : decode cX6_mixQueue 84 = .ok (.iload 6, 2) := by decide +kernel
theorem dX6_mixQueue_86 : decode cX6_mixQueue 86 = .ok (.iload 8, 2) := by decide +kernel
theorem dX6_mixQueue_88 : decode cX6_mixQueue 88 = .ok (.invokevirtual 253, 3) := by decide +kernel
theorem dX6_mixQueue_91 : decode cX6_mixQueue 91 = .ok (.i2l, 1) := by decide +kernel
theorem dX6_mixQueue_92 : decode cX6_mixQueue 92 = .ok (.invokestatic 314, 3) := by decide +kernel
theorem dX6_mixQueue_95 : decode cX6_mixQueue 95 = .ok (.lstore 4, 2) := by decide +kernel
theorem dX6_mixQueue_97 : decode cX6_mixQueue 97 = .ok (.iinc 8 1, 3) := by decide +kernel
theorem dX6_mixQueue_100 : decode cX6_mixQueue 100 = .ok (.goto (-26), 3) := by decide +kernel
theorem dX6_mixQueue_103 : decode cX6_mixQueue 103 = .ok (.iinc 6 1, 3) := by decide +kernel
theorem dX6_mixQueue_106 : decode cX6_mixQueue 106 = .ok (.goto (-84), 3) := by decide +kernel
theorem dX6_mixQueue_109 : decode cX6_mixQueue 109 = .ok (.lload 4, 2) := by decide +kernel
theorem dX6_mixQueue_111 : decode cX6_mixQueue 111 = .ok (.lreturn, 1) := by decide +kernel
abbrev rmX6_mixQueue : Room := { frames := 4, cells := 0, slots := 0, locals := 104 }
noncomputable def fX6_mixQueue_109 (n : Nat) (Sh : Sp) (M : Mm) (a0 : Nat) (a1 : Int64) (v4 : Int64) : Option Int64 :=
  some v4
noncomputable def fX6_mixQueue_103 (n : Nat) (Sh : Sp) (M : Mm) (a0 : Nat) (a1 : Int64) (v3 : Nat) (v4 : Int64) (v6 : Int32) : Option ((Int64 × Int32) ⊕ Int64) :=
  some (Sum.inl (v4, (v6 + 1)))
noncomputable def fX6_mixQueue_74b (n : Nat) (Sh : Sp) (M : Mm) (a0 : Nat) (a1 : Int64) (v3 : Nat) (v6 : Int32) (v7 : Int32) (v4 : Int64) (v8 : Int32) : Option ((Int64 × Int32) ⊕ ((Int64 × Int32) ⊕ Int64)) :=
  if v8 < v7 then
    chk (Sh v3 = some (.inl 1)) <|
    (fX1_signAt n Sh M v3 v6 v8).bind fun r1 =>
    (fX6_mix n Sh M v4 (Int32.toInt64 r1)).bind fun r2 =>
    some (Sum.inl (r2, (v8 + 1)))
  else
    (fX6_mixQueue_103 n Sh M a0 a1 v3 v4 v6).map Sum.inr
noncomputable def fX6_mixQueue_74 (n : Nat) (Sh : Sp) (M : Mm) (a0 : Nat) (a1 : Int64) (v3 : Nat) (v6 : Int32) (v7 : Int32) (v4 : Int64) (v8 : Int32) : Option ((Int64 × Int32) ⊕ Int64) :=
  iter n (fun s => fX6_mixQueue_74b n Sh M a0 a1 v3 v6 v7 s.1 s.2) (v4, v8)
noncomputable def fX6_mixQueue_62 (n : Nat) (Sh : Sp) (M : Mm) (a0 : Nat) (a1 : Int64) (v3 : Nat) (v4 : Int64) (v6 : Int32) : Option ((Int64 × Int32) ⊕ Int64) :=
  chk (Sh v3 = some (.inl 1)) <|
  (fX1_about n Sh M v3 v6 3).bind fun r3 =>
  fX6_mixQueue_74 n Sh M a0 a1 v3 v6 r3 v4 0
noncomputable def fX6_mixQueue_34b (n : Nat) (Sh : Sp) (M : Mm) (a0 : Nat) (a1 : Int64) (v3 : Nat) (v6 : Int32) (v4 : Int64) (v7 : Int32) : Option ((Int64 × Int32) ⊕ ((Int64 × Int32) ⊕ Int64)) :=
  if v7 < 4 then
    chk (Sh v3 = some (.inl 1)) <|
    (fX1_about n Sh M v3 v6 v7).bind fun r4 =>
    (fX6_mix n Sh M v4 (Int32.toInt64 r4)).bind fun r5 =>
    some (Sum.inl (r5, (v7 + 1)))
  else
    (fX6_mixQueue_62 n Sh M a0 a1 v3 v4 v6).map Sum.inr
noncomputable def fX6_mixQueue_34 (n : Nat) (Sh : Sp) (M : Mm) (a0 : Nat) (a1 : Int64) (v3 : Nat) (v6 : Int32) (v4 : Int64) (v7 : Int32) : Option ((Int64 × Int32) ⊕ Int64) :=
  iter n (fun s => fX6_mixQueue_34b n Sh M a0 a1 v3 v6 s.1 s.2) (v4, v7)
noncomputable def fX6_mixQueue_22b (n : Nat) (Sh : Sp) (M : Mm) (a0 : Nat) (a1 : Int64) (v3 : Nat) (v4 : Int64) (v6 : Int32) : Option ((Int64 × Int32) ⊕ Int64) :=
  gI Sh M v3 1 0 fun x6 =>
  if v6 < x6 then
    fX6_mixQueue_34 n Sh M a0 a1 v3 v6 v4 0
  else
    (fX6_mixQueue_109 n Sh M a0 a1 v4).map Sum.inr
noncomputable def fX6_mixQueue_22 (n : Nat) (Sh : Sp) (M : Mm) (a0 : Nat) (a1 : Int64) (v3 : Nat) (v4 : Int64) (v6 : Int32) : Option Int64 :=
  iter n (fun s => fX6_mixQueue_22b n Sh M a0 a1 v3 s.1 s.2) (v4, v6)
noncomputable def fX6_mixQueue (n : Nat) (Sh : Sp) (M : Mm) (a0 : Nat) (a1 : Int64) : Option Int64 :=
  tF M a0 0 fun b7 =>
  gF Sh M b7 3 1 fun b8 =>
  gI Sh M b8 1 0 fun x9 =>
  (fX6_mix n Sh M a1 (Int32.toInt64 x9)).bind fun r10 =>
  fX6_mixQueue_22 n Sh M a0 a1 b8 r10 0
set_option maxRecDepth 100000 in
set_option maxHeartbeats 4000000 in
theorem kX6_mixQueue {l : Launch} {G : Gt} {n : Nat} {Sh : Sp} {M : Mm} {a0 : Nat} {a1 : Int64} (hT : Sh a0 = some (.inl 6)) {r : Int64} (h : fX6_mixQueue n Sh M a0 a1 = some r) : Ct l yX6_mixQueue cX6_mixQueue 9 (some .long) rmX6_mixQueue G Sh M [.ref a0, .long a1] (some (.long r)) M := by
  refine Ct.of (by decide) (Nat.le_of_ble_eq_true rfl) ?_
  intro p e s m args below meth c ls C hK hX hP hS hb hlk hr hl
  replace hl : lv_has ls 9 [(0, .ref a0), (1, .long a1)] := hl
  have J109 : ∀ (v4 : Int64) (H : Heap) (locs : List Loc) (ls : Array Slot), HM G Sh M H → SS G s s.heap.size H locs → lv_has ls 9 [(0, .ref a0), (1, .long a1), (4, .long v4)] → fX6_mixQueue_109 n Sh M a0 a1 v4 = some r → W p l e rmX6_mixQueue s m args below meth c H locs 0 0 (MQ below (QG G Sh M (some (.long r))) args s rmX6_mixQueue.cells rmX6_mixQueue.slots (AA G)) (F0 m 109 ls []) := by
    intro v4 H locs ls hP hS hl h
    unfold fX6_mixQueue_109 at h
    refine lv_lload C.1 C.2.1 dX6_mixQueue_109 (lv_at hl 2 rfl) ?_
    have e := Option.some.inj h
    exact q_l C hlk hP hS hr (by rw [← e]) rfl dX6_mixQueue_111
  have J22 : ∀ (v3 : Nat), ∀ (k : Nat) (v4 : Int64) (v6 : Int32) (H : Heap) (locs : List Loc) (ls : Array Slot), HM G Sh M H → SS G s s.heap.size H locs → lv_has ls 9 [(0, .ref a0), (1, .long a1), (3, .ref v3), (4, .long v4), (6, .int v6)] → iter k (fun s => fX6_mixQueue_22b n Sh M a0 a1 v3 s.1 s.2) (v4, v6) = some r → W p l e rmX6_mixQueue s m args below meth c H locs 0 0 (MQ below (QG G Sh M (some (.long r))) args s rmX6_mixQueue.cells rmX6_mixQueue.slots (AA G)) (F0 m 22 ls []) := by
    intro v3 k
    induction k with
    | zero => intro v4 v6 H locs ls hP hS hl h; exact (iter_0 h).elim
    | succ k ih1 =>
      intro v4 v6 H locs ls hP hS hl h
      obtain ⟨z1, h, hz1⟩ := iter_some h
      replace h : fX6_mixQueue_22b n Sh M a0 a1 v3 v4 v6 = some z1 := h
      have J103 : ∀ (v4 : Int64) (v6 : Int32) (H : Heap) (locs : List Loc) (ls : Array Slot), HM G Sh M H → SS G s s.heap.size H locs → lv_has ls 9 [(0, .ref a0), (1, .long a1), (3, .ref v3), (4, .long v4), (6, .int v6)] → fX6_mixQueue_103 n Sh M a0 a1 v3 v4 v6 = some z1 → W p l e rmX6_mixQueue s m args below meth c H locs 0 0 (MQ below (QG G Sh M (some (.long r))) args s rmX6_mixQueue.cells rmX6_mixQueue.slots (AA G)) (F0 m 103 ls []) := by
        intro v4 v6 H locs ls hP hS hl h
        unfold fX6_mixQueue_103 at h
        refine lv_iinc (v := (v6 + 1)) (lv' := [(6, .int (v6 + 1)), (0, .ref a0), (1, .long a1), (3, .ref v3), (4, .long v4)]) C.1 C.2.1 dX6_mixQueue_103 hl (k := 4) rfl rfl (by decide) rfl (fun ls hl => ?_)
        refine lv_goto (tgt := 22) C.1 C.2.1 dX6_mixQueue_106 (by decide) ?_
        have e := Option.some.inj h
        rw [← e] at hz1
        exact ih1 (v4) ((v6 + 1)) _ _ _ hP hS (lv_sub hl [1, 2, 3, 4, 0] rfl) (itK_inl hz1)
      have J74 : ∀ (v6 : Int32) (v7 : Int32), ∀ (k : Nat) (v4 : Int64) (v8 : Int32) (H : Heap) (locs : List Loc) (ls : Array Slot), HM G Sh M H → SS G s s.heap.size H locs → lv_has ls 9 [(0, .ref a0), (1, .long a1), (3, .ref v3), (4, .long v4), (6, .int v6), (7, .int v7), (8, .int v8)] → iter k (fun s => fX6_mixQueue_74b n Sh M a0 a1 v3 v6 v7 s.1 s.2) (v4, v8) = some z1 → W p l e rmX6_mixQueue s m args below meth c H locs 0 0 (MQ below (QG G Sh M (some (.long r))) args s rmX6_mixQueue.cells rmX6_mixQueue.slots (AA G)) (F0 m 74 ls []) := by
        intro v6 v7 k
        induction k with
        | zero => intro v4 v8 H locs ls hP hS hl h; exact (iter_0 h).elim
        | succ k ih2 =>
          intro v4 v8 H locs ls hP hS hl h
          obtain ⟨z2, h, hz2⟩ := iter_some h
          replace h : fX6_mixQueue_74b n Sh M a0 a1 v3 v6 v7 v4 v8 = some z2 := h
          unfold fX6_mixQueue_74b at h
          refine lv_iload C.1 C.2.1 dX6_mixQueue_74 (lv_at hl 6 rfl) ?_
          refine lv_iload C.1 C.2.1 dX6_mixQueue_76 (lv_at hl 5 rfl) ?_
          refine b_ige (tgt := 103) C dX6_mixQueue_78 (by decide) h (fun h => ?_) (fun h => ?_)
          · refine lv_lload C.1 C.2.1 dX6_mixQueue_81 (lv_at hl 3 rfl) ?_
            refine lv_aload_n C.1 C.2.1 dX6_mixQueue_83 rfl (lv_at hl 2 rfl) ?_
            refine lv_iload C.1 C.2.1 dX6_mixQueue_84 (lv_at hl 4 rfl) ?_
            refine lv_iload C.1 C.2.1 dX6_mixQueue_86 (lv_at hl 6 rfl) ?_
            obtain ⟨hs, h⟩ := chk_some h
            obtain ⟨r1, hc, h⟩ := bS h
            refine r_V1 C hK hX hb hP hS hl.1 (kX1_signAt (hs) hc) hs cl_1 wd_583 mo_X1_signAt wd_584 wd_585 ⟨Nat.le_of_ble_eq_true rfl, Nat.le_of_ble_eq_true rfl⟩ ⟨Nat.le_of_ble_eq_true rfl, Nat.le_of_ble_eq_true rfl⟩ rfl (rest := [.long v4]) rfl (Nat.le_of_ble_eq_true rfl) dX6_mixQueue_88 (fun H locs hP hS => ?_)
            refine lv_i2l C.1 C.2.1 dX6_mixQueue_91 rfl ?_
            obtain ⟨r2, hc, h⟩ := bS h
            refine r_S1 C hK hX hb hP hS hl.1 (kX6_mix hc) wd_624 mo_X6_mix wd_625 ⟨Nat.le_of_ble_eq_true rfl, Nat.le_of_ble_eq_true rfl⟩ ⟨Nat.le_of_ble_eq_true rfl, Nat.le_of_ble_eq_true rfl⟩ rfl (rest := []) rfl (Nat.le_of_ble_eq_true rfl) dX6_mixQueue_92 (fun H locs hP hS => ?_)
            refine lv_lstore (lv' := [(4, .long r2), (0, .ref a0), (1, .long a1), (3, .ref v3), (6, .int v6), (7, .int v7), (8, .int v8)]) C.1 C.2.1 dX6_mixQueue_95 hl (by decide) rfl (fun ls hl => ?_)
            refine lv_iinc (v := (v8 + 1)) (lv' := [(8, .int (v8 + 1)), (4, .long r2), (0, .ref a0), (1, .long a1), (3, .ref v3), (6, .int v6), (7, .int v7)]) C.1 C.2.1 dX6_mixQueue_97 hl (k := 6) rfl rfl (by decide) rfl (fun ls hl => ?_)
            refine lv_goto (tgt := 74) C.1 C.2.1 dX6_mixQueue_100 (by decide) ?_
            have e := Option.some.inj h
            rw [← e] at hz2
            exact ih2 (r2) ((v8 + 1)) _ _ _ hP hS (lv_sub hl [2, 3, 4, 1, 5, 6, 0] rfl) (itK_inl hz2)
          · obtain ⟨w2, h, e⟩ := mS h
            rw [← e] at hz2
            replace e := itK_inr hz2
            rw [e] at h
            exact J103 (v4) (v6) _ _ _ hP hS (lv_sub hl [0, 1, 2, 3, 4] rfl) h
      have J62 : ∀ (v4 : Int64) (v6 : Int32) (H : Heap) (locs : List Loc) (ls : Array Slot), HM G Sh M H → SS G s s.heap.size H locs → lv_has ls 9 [(0, .ref a0), (1, .long a1), (3, .ref v3), (4, .long v4), (6, .int v6)] → fX6_mixQueue_62 n Sh M a0 a1 v3 v4 v6 = some z1 → W p l e rmX6_mixQueue s m args below meth c H locs 0 0 (MQ below (QG G Sh M (some (.long r))) args s rmX6_mixQueue.cells rmX6_mixQueue.slots (AA G)) (F0 m 62 ls []) := by
        intro v4 v6 H locs ls hP hS hl h
        unfold fX6_mixQueue_62 at h
        refine lv_aload_n C.1 C.2.1 dX6_mixQueue_62 rfl (lv_at hl 2 rfl) ?_
        refine lv_iload C.1 C.2.1 dX6_mixQueue_63 (lv_at hl 4 rfl) ?_
        refine lv_iconst (v := 3) C.1 C.2.1 dX6_mixQueue_65 (by decide) ?_
        obtain ⟨hs, h⟩ := chk_some h
        obtain ⟨r3, hc, h⟩ := bS h
        refine r_V1 C hK hX hb hP hS hl.1 (kX1_about (hs) hc) hs cl_1 wd_649 mo_X1_about wd_650 wd_651 ⟨Nat.le_of_ble_eq_true rfl, Nat.le_of_ble_eq_true rfl⟩ ⟨Nat.le_of_ble_eq_true rfl, Nat.le_of_ble_eq_true rfl⟩ rfl (rest := []) rfl (Nat.le_of_ble_eq_true rfl) dX6_mixQueue_66 (fun H locs hP hS => ?_)
        refine lv_istore (lv' := [(7, .int r3), (0, .ref a0), (1, .long a1), (3, .ref v3), (4, .long v4), (6, .int v6)]) C.1 C.2.1 dX6_mixQueue_69 hl (by decide) rfl (fun ls hl => ?_)
        refine lv_iconst (v := 0) C.1 C.2.1 dX6_mixQueue_71 (by decide) ?_
        refine lv_istore (lv' := [(8, .int 0), (7, .int r3), (0, .ref a0), (1, .long a1), (3, .ref v3), (4, .long v4), (6, .int v6)]) C.1 C.2.1 dX6_mixQueue_72 hl (by decide) rfl (fun ls hl => ?_)
        exact J74 (v6) (r3) n (v4) (0) _ _ _ hP hS (lv_sub hl [2, 3, 4, 5, 6, 1, 0] rfl) h
      have J34 : ∀ (v6 : Int32), ∀ (k : Nat) (v4 : Int64) (v7 : Int32) (H : Heap) (locs : List Loc) (ls : Array Slot), HM G Sh M H → SS G s s.heap.size H locs → lv_has ls 9 [(0, .ref a0), (1, .long a1), (3, .ref v3), (4, .long v4), (6, .int v6), (7, .int v7)] → iter k (fun s => fX6_mixQueue_34b n Sh M a0 a1 v3 v6 s.1 s.2) (v4, v7) = some z1 → W p l e rmX6_mixQueue s m args below meth c H locs 0 0 (MQ below (QG G Sh M (some (.long r))) args s rmX6_mixQueue.cells rmX6_mixQueue.slots (AA G)) (F0 m 34 ls []) := by
        intro v6 k
        induction k with
        | zero => intro v4 v7 H locs ls hP hS hl h; exact (iter_0 h).elim
        | succ k ih2 =>
          intro v4 v7 H locs ls hP hS hl h
          obtain ⟨z2, h, hz2⟩ := iter_some h
          replace h : fX6_mixQueue_34b n Sh M a0 a1 v3 v6 v4 v7 = some z2 := h
          unfold fX6_mixQueue_34b at h
          refine lv_iload C.1 C.2.1 dX6_mixQueue_34 (lv_at hl 5 rfl) ?_
          refine lv_iconst (v := 4) C.1 C.2.1 dX6_mixQueue_36 (by decide) ?_
          refine b_ige (tgt := 62) C dX6_mixQueue_37 (by decide) h (fun h => ?_) (fun h => ?_)
          · refine lv_lload C.1 C.2.1 dX6_mixQueue_40 (lv_at hl 3 rfl) ?_
            refine lv_aload_n C.1 C.2.1 dX6_mixQueue_42 rfl (lv_at hl 2 rfl) ?_
            refine lv_iload C.1 C.2.1 dX6_mixQueue_43 (lv_at hl 4 rfl) ?_
            refine lv_iload C.1 C.2.1 dX6_mixQueue_45 (lv_at hl 5 rfl) ?_
            obtain ⟨hs, h⟩ := chk_some h
            obtain ⟨r4, hc, h⟩ := bS h
            refine r_V1 C hK hX hb hP hS hl.1 (kX1_about (hs) hc) hs cl_1 wd_649 mo_X1_about wd_650 wd_651 ⟨Nat.le_of_ble_eq_true rfl, Nat.le_of_ble_eq_true rfl⟩ ⟨Nat.le_of_ble_eq_true rfl, Nat.le_of_ble_eq_true rfl⟩ rfl (rest := [.long v4]) rfl (Nat.le_of_ble_eq_true rfl) dX6_mixQueue_47 (fun H locs hP hS => ?_)
            refine lv_i2l C.1 C.2.1 dX6_mixQueue_50 rfl ?_
            obtain ⟨r5, hc, h⟩ := bS h
            refine r_S1 C hK hX hb hP hS hl.1 (kX6_mix hc) wd_624 mo_X6_mix wd_625 ⟨Nat.le_of_ble_eq_true rfl, Nat.le_of_ble_eq_true rfl⟩ ⟨Nat.le_of_ble_eq_true rfl, Nat.le_of_ble_eq_true rfl⟩ rfl (rest := []) rfl (Nat.le_of_ble_eq_true rfl) dX6_mixQueue_51 (fun H locs hP hS => ?_)
            refine lv_lstore (lv' := [(4, .long r5), (0, .ref a0), (1, .long a1), (3, .ref v3), (6, .int v6), (7, .int v7)]) C.1 C.2.1 dX6_mixQueue_54 hl (by decide) rfl (fun ls hl => ?_)
            refine lv_iinc (v := (v7 + 1)) (lv' := [(7, .int (v7 + 1)), (4, .long r5), (0, .ref a0), (1, .long a1), (3, .ref v3), (6, .int v6)]) C.1 C.2.1 dX6_mixQueue_56 hl (k := 5) rfl rfl (by decide) rfl (fun ls hl => ?_)
            refine lv_goto (tgt := 34) C.1 C.2.1 dX6_mixQueue_59 (by decide) ?_
            have e := Option.some.inj h
            rw [← e] at hz2
            exact ih2 (r5) ((v7 + 1)) _ _ _ hP hS (lv_sub hl [2, 3, 4, 1, 5, 0] rfl) (itK_inl hz2)
          · obtain ⟨w2, h, e⟩ := mS h
            rw [← e] at hz2
            replace e := itK_inr hz2
            rw [e] at h
            exact J62 (v4) (v6) _ _ _ hP hS (lv_sub hl [0, 1, 2, 3, 4] rfl) h
      unfold fX6_mixQueue_22b at h
      refine lv_iload C.1 C.2.1 dX6_mixQueue_22 (lv_at hl 4 rfl) ?_
      refine lv_aload_n C.1 C.2.1 dX6_mixQueue_24 rfl (lv_at hl 2 rfl) ?_
      refine r_gIN C hK hP cl_1 (k := 0) (by decide) (hX.nw wd_190) rfl dX6_mixQueue_25 h (fun x6 h => ?_)
      refine b_ige (tgt := 109) C dX6_mixQueue_28 (by decide) h (fun h => ?_) (fun h => ?_)
      · refine lv_iconst (v := 0) C.1 C.2.1 dX6_mixQueue_31 (by decide) ?_
        refine lv_istore (lv' := [(7, .int 0), (0, .ref a0), (1, .long a1), (3, .ref v3), (4, .long v4), (6, .int v6)]) C.1 C.2.1 dX6_mixQueue_32 hl (by decide) rfl (fun ls hl => ?_)
        exact J34 (v6) n (v4) (0) _ _ _ hP hS (lv_sub hl [1, 2, 3, 4, 5, 0] rfl) h
      · obtain ⟨w1, h, e⟩ := mS h
        rw [← e] at hz1
        replace e := itK_inr hz1
        rw [e] at h
        exact J109 (v4) _ _ _ hP hS (lv_sub hl [0, 1, 3] rfl) h
  unfold fX6_mixQueue at h
  refine lv_aload_n C.1 C.2.1 dX6_mixQueue_0 rfl (lv_at hl 0 rfl) ?_
  refine r_tF C hK hP hT cl_6 (k := 0) (by decide) wd_264 rfl dX6_mixQueue_1 h (fun b7 h => ?_)
  refine r_gFN C hK hP cl_3 (k := 1) (by decide) (hX.nw wd_212) rfl dX6_mixQueue_4 h (fun b8 h => ?_)
  refine lv_astore_n (lv' := [(3, .ref b8), (0, .ref a0), (1, .long a1)]) C.1 C.2.1 dX6_mixQueue_7 rfl hl (by decide) rfl (fun ls hl => ?_)
  refine lv_lload_n C.1 C.2.1 dX6_mixQueue_8 rfl (lv_at hl 2 rfl) ?_
  refine lv_aload_n C.1 C.2.1 dX6_mixQueue_9 rfl (lv_at hl 0 rfl) ?_
  refine r_gIN C hK hP cl_1 (k := 0) (by decide) (hX.nw wd_190) rfl dX6_mixQueue_10 h (fun x9 h => ?_)
  refine lv_i2l C.1 C.2.1 dX6_mixQueue_13 rfl ?_
  obtain ⟨r10, hc, h⟩ := bS h
  refine r_S1 C hK hX hb hP hS hl.1 (kX6_mix hc) wd_624 mo_X6_mix wd_625 ⟨Nat.le_of_ble_eq_true rfl, Nat.le_of_ble_eq_true rfl⟩ ⟨Nat.le_of_ble_eq_true rfl, Nat.le_of_ble_eq_true rfl⟩ rfl (rest := []) rfl (Nat.le_of_ble_eq_true rfl) dX6_mixQueue_14 (fun H locs hP hS => ?_)
  refine lv_lstore (lv' := [(4, .long r10), (3, .ref b8), (0, .ref a0), (1, .long a1)]) C.1 C.2.1 dX6_mixQueue_17 hl (by decide) rfl (fun ls hl => ?_)
  refine lv_iconst (v := 0) C.1 C.2.1 dX6_mixQueue_19 (by decide) ?_
  refine lv_istore (lv' := [(6, .int 0), (4, .long r10), (3, .ref b8), (0, .ref a0), (1, .long a1)]) C.1 C.2.1 dX6_mixQueue_20 hl (by decide) rfl (fun ls hl => ?_)
  exact J22 (b8) n (r10) (0) _ _ _ hP hS (lv_sub hl [3, 4, 2, 1, 0] rfl) h
theorem dX6_checksum_0 : decode cX6_checksum 0 = .ok (.ldc2_w 309, 3) := by decide +kernel
theorem dX6_checksum_3 : decode cX6_checksum 3 = .ok (.aload_n 0, 1) := by decide +kernel
theorem dX6_checksum_4 : decode cX6_checksum 4 = .ok (.invokevirtual 311, 3) := by decide +kernel
theorem dX6_checksum_7 : decode cX6_checksum 7 = .ok (.i2l, 1) := by decide +kernel
theorem dX6_checksum_8 : decode cX6_checksum 8 = .ok (.invokestatic 314, 3) := by decide +kernel
theorem dX6_checksum_11 : decode cX6_checksum 11 = .ok (.lstore_n 1, 1) := by decide +kernel
theorem dX6_checksum_12 : decode cX6_checksum 12 = .ok (.aload_n 0, 1) := by decide +kernel
theorem dX6_checksum_13 : decode cX6_checksum 13 = .ok (.getfield 10, 3) := by decide +kernel
theorem dX6_checksum_16 : decode cX6_checksum 16 = .ok (.getfield 27, 3) := by decide +kernel
theorem dX6_checksum_19 : decode cX6_checksum 19 = .ok (.aload_n 0, 1) := by decide +kernel
theorem dX6_checksum_20 : decode cX6_checksum 20 = .ok (.getfield 58, 3) := by decide +kernel
theorem dX6_checksum_23 : decode cX6_checksum 23 = .ok (.invokevirtual 191, 3) := by decide +kernel
theorem dX6_checksum_26 : decode cX6_checksum 26 = .ok (.istore_n 3, 1) := by decide +kernel
theorem dX6_checksum_27 : decode cX6_checksum 27 = .ok (.iconst 0, 1) := by decide +kernel
theorem dX6_checksum_28 : decode cX6_checksum 28 = .ok (.istore 4, 2) := by decide +kernel
theorem dX6_checksum_30 : decode cX6_checksum 30 = .ok (.iload 4, 2) := by decide +kernel
theorem dX6_checksum_32 : decode cX6_checksum 32 = .ok (.iload_n 3, 1) := by decide +kernel
theorem dX6_checksum_33 : decode cX6_checksum 33 = .ok (.if_icmp .ge 32, 3) := by decide +kernel
theorem dX6_checksum_36 : decode cX6_checksum 36 = .ok (.iload 4, 2) := by decide +kernel
theorem dX6_checksum_38 : decode cX6_checksum 38 = .ok (.aload_n 0, 1) := by decide +kernel
theorem dX6_checksum_39 : decode cX6_checksum 39 = .ok (.getfield 58, 3) := by decide +kernel
theorem dX6_checksum_42 : decode cX6_checksum 42 = .ok (.arraylength, 1) := by decide +kernel
theorem dX6_checksum_43 : decode cX6_checksum 43 = .ok (.if_icmp .ge 22, 3) := by decide +kernel
theorem dX6_checksum_46 : decode cX6_checksum 46 = .ok (.aload_n 0, 1) := by decide +kernel
theorem dX6_checksum_47 : decode cX6_checksum 47 = .ok (.lload_n 1, 1) := by decide +kernel
theorem dX6_checksum_48 : decode cX6_checksum 48 = .ok (.aload_n 0, 1) := by decide +kernel
theorem dX6_checksum_49 : decode cX6_checksum 49 = .ok (.getfield 58, 3) := by decide +kernel
theorem dX6_checksum_52 : decode cX6_checksum 52 = .ok (.iload 4, 2) := by decide +kernel
theorem dX6_checksum_54 : decode cX6_checksum 54 = .ok (.iaload, 1) := by decide +kernel
theorem dX6_checksum_55 : decode cX6_checksum 55 = .ok (.invokevirtual 318, 3) := by decide +kernel
theorem dX6_checksum_58 : decode cX6_checksum 58 = .ok (.lstore_n 1, 1) := by decide +kernel
theorem dX6_checksum_59 : decode cX6_checksum 59 = .ok (.iinc 4 1, 3) := by decide +kernel
theorem dX6_checksum_62 : decode cX6_checksum 62 = .ok (.goto (-32), 3) := by decide +kernel
theorem dX6_checksum_65 : decode cX6_checksum 65 = .ok (.lload_n 1, 1) := by decide +kernel
theorem dX6_checksum_66 : decode cX6_checksum 66 = .ok (.aload_n 0, 1) := by decide +kernel
theorem dX6_checksum_67 : decode cX6_checksum 67 = .ok (.getfield 21, 3) := by decide +kernel
theorem dX6_checksum_70 : decode cX6_checksum 70 = .ok (.invokevirtual 203, 3) := by decide +kernel
theorem dX6_checksum_73 : decode cX6_checksum 73 = .ok (.i2l, 1) := by decide +kernel
theorem dX6_checksum_74 : decode cX6_checksum 74 = .ok (.invokestatic 314, 3) := by decide +kernel
theorem dX6_checksum_77 : decode cX6_checksum 77 = .ok (.aload_n 0, 1) := by decide +kernel
theorem dX6_checksum_78 : decode cX6_checksum 78 = .ok (.invokevirtual 322, 3) := by decide +kernel
theorem dX6_checksum_81 : decode cX6_checksum 81 = .ok (.i2l, 1) := by decide +kernel
theorem dX6_checksum_82 : decode cX6_checksum 82 = .ok (.invokestatic 314, 3) := by decide +kernel
theorem dX6_checksum_85 : decode cX6_checksum 85 = .ok (.lstore_n 1, 1) := by decide +kernel
theorem dX6_checksum_86 : decode cX6_checksum 86 = .ok (.aload_n 0, 1) := by decide +kernel
theorem dX6_checksum_87 : decode cX6_checksum 87 = .ok (.getfield 21, 3) := by decide +kernel
theorem dX6_checksum_90 : decode cX6_checksum 90 = .ok (.invokevirtual 199, 3) := by decide +kernel
theorem dX6_checksum_93 : decode cX6_checksum 93 = .ok (.iconst 0, 1) := by decide +kernel
theorem dX6_checksum_94 : decode cX6_checksum 94 = .ok (.istore 4, 2) := by decide +kernel
theorem dX6_checksum_96 : decode cX6_checksum 96 = .ok (.iload 4, 2) := by decide +kernel
theorem dX6_checksum_98 : decode cX6_checksum 98 = .ok (.aload_n 0, 1) := by decide +kernel
theorem dX6_checksum_99 : decode cX6_checksum 99 = .ok (.getfield 21, 3) := by decide +kernel
theorem dX6_checksum_102 : decode cX6_checksum 102 = .ok (.getfield 325, 3) := by decide +kernel
theorem dX6_checksum_105 : decode cX6_checksum 105 = .ok (.if_icmp .ge 24, 3) := by decide +kernel
theorem dX6_checksum_108 : decode cX6_checksum 108 = .ok (.lload_n 1, 1) := by decide +kernel
theorem dX6_checksum_109 : decode cX6_checksum 109 = .ok (.aload_n 0, 1) := by decide +kernel
theorem dX6_checksum_110 : decode cX6_checksum 110 = .ok (.getfield 21, 3) := by decide +kernel
theorem dX6_checksum_113 : decode cX6_checksum 113 = .ok (.iload 4, 2) := by decide +kernel
theorem dX6_checksum_115 : decode cX6_checksum 115 = .ok (.invokevirtual 202, 3) := by decide +kernel
theorem dX6_checksum_118 : decode cX6_checksum 118 = .ok (.i2l, 1) := by decide +kernel
theorem dX6_checksum_119 : decode cX6_checksum 119 = .ok (.invokestatic 314, 3) := by decide +kernel
theorem dX6_checksum_122 : decode cX6_checksum 122 = .ok (.lstore_n 1, 1) := by decide +kernel
theorem dX6_checksum_123 : decode cX6_checksum 123 = .ok (.iinc 4 1, 3) := by decide +kernel
theorem dX6_checksum_126 : decode cX6_checksum 126 = .ok (.goto (-30), 3) := by decide +kernel
theorem dX6_checksum_129 : decode cX6_checksum 129 = .ok (.aload_n 0, 1) := by decide +kernel
theorem dX6_checksum_130 : decode cX6_checksum 130 = .ok (.lload_n 1, 1) := by decide +kernel
theorem dX6_checksum_131 : decode cX6_checksum 131 = .ok (.invokevirtual 326, 3) := by decide +kernel
theorem dX6_checksum_134 : decode cX6_checksum 134 = .ok (.lstore_n 1, 1) := by decide +kernel
theorem dX6_checksum_135 : decode cX6_checksum 135 = .ok (.lload_n 1, 1) := by decide +kernel
theorem dX6_checksum_136 : decode cX6_checksum 136 = .ok (.aload_n 0, 1) := by decide +kernel
theorem dX6_checksum_137 : decode cX6_checksum 137 = .ok (.getfield 10, 3) := by decide +kernel
theorem dX6_checksum_140 : decode cX6_checksum 140 = .ok (.getfield 256, 3) := by decide +kernel
theorem dX6_checksum_143 : decode cX6_checksum 143 = .ok (.invokestatic 330, 3) := by decide +kernel
theorem dX6_checksum_146 : decode cX6_checksum 146 = .ok (.lstore_n 1, 1) := by decide +kernel
theorem dX6_checksum_147 : decode cX6_checksum 147 = .ok (.lload_n 1, 1) := by decide +kernel
theorem dX6_checksum_148 : decode cX6_checksum 148 = .ok (.aload_n 0, 1) := by decide +kernel
theorem dX6_checksum_149 : decode cX6_checksum 149 = .ok (.getfield 51, 3) := by decide +kernel
theorem dX6_checksum_152 : decode cX6_checksum 152 = .ok (.getfield 171, 3) := by decide +kernel
theorem dX6_checksum_155 : decode cX6_checksum 155 = .ok (.i2l, 1) := by decide +kernel
theorem dX6_checksum_156 : decode cX6_checksum 156 = .ok (.invokestatic 314, 3) := by decide +kernel
theorem dX6_checksum_159 : decode cX6_checksum 159 = .ok (.lstore_n 1, 1) := by decide +kernel
theorem dX6_checksum_160 : decode cX6_checksum 160 = .ok (.lload_n 1, 1) := by decide +kernel
theorem dX6_checksum_161 : decode cX6_checksum 161 = .ok (.aload_n 0, 1) := by decide +kernel
theorem dX6_checksum_162 : decode cX6_checksum 162 = .ok (.getfield 42, 3) := by decide +kernel
theorem dX6_checksum_165 : decode cX6_checksum 165 = .ok (.i2l, 1) := by decide +kernel
theorem dX6_checksum_166 : decode cX6_checksum 166 = .ok (.invokestatic 314, 3) := by decide +kernel
theorem dX6_checksum_169 : decode cX6_checksum 169 = .ok (.lreturn, 1) := by decide +kernel
abbrev rmX6_checksum : Room := { frames := 66, cells := 0, slots := 0, locals := 1669 }
noncomputable def fX6_checksum_129 (n : Nat) (Sh : Sp) (a0 : Nat) (M : Mm) (v1 : Int64) : Option (Int64 × Mm) :=
  (fX6_mixQueue n Sh M a0 v1).bind fun r1 =>
  tF M a0 0 fun b2 =>
  gF Sh M b2 3 2 fun b3 =>
  (fX6_mixWords n Sh M r1 b3).bind fun r4 =>
  tF M a0 5 fun b5 =>
  gI Sh M b5 5 1 fun x6 =>
  (fX6_mix n Sh M r4 (Int32.toInt64 x6)).bind fun r7 =>
  tI M a0 4 fun x8 =>
  (fX6_mix n Sh M r7 (Int32.toInt64 x8)).bind fun r9 =>
  some (r9, M)
noncomputable def fX6_checksum_96b (n : Nat) (Sh : Sp) (a0 : Nat) (M : Mm) (v1 : Int64) (v4 : Int32) : Option ((Int64 × Int32) ⊕ (Int64 × Mm)) :=
  tF M a0 1 fun b10 =>
  gI Sh M b10 2 3 fun x11 =>
  if v4 < x11 then
    tF M a0 1 fun b12 =>
    chk (Sh b12 = some (.inl 2)) <|
    (fX2_at n Sh M b12 v4).bind fun r13 =>
    (fX6_mix n Sh M v1 (Int32.toInt64 r13)).bind fun r14 =>
    some (Sum.inl (r14, (v4 + 1)))
  else
    (fX6_checksum_129 n Sh a0 M v1).map Sum.inr
noncomputable def fX6_checksum_96 (n : Nat) (Sh : Sp) (a0 : Nat) (M : Mm) (v1 : Int64) (v4 : Int32) : Option (Int64 × Mm) :=
  iter n (fun s => fX6_checksum_96b n Sh a0 M s.1 s.2) (v1, v4)
noncomputable def fX6_checksum_65 (n : Nat) (Sh : Sp) (a0 : Nat) (M : Mm) (v1 : Int64) : Option (Int64 × Mm) :=
  tF M a0 1 fun b15 =>
  chk (Sh b15 = some (.inl 2)) <|
  (fX2_focusNow n Sh M b15).bind fun r16 =>
  (fX6_mix n Sh M v1 (Int32.toInt64 r16)).bind fun r17 =>
  (fX6_trap n Sh M a0).bind fun r18 =>
  (fX6_mix n Sh M r17 (Int32.toInt64 r18)).bind fun r19 =>
  tF M a0 1 fun b20 =>
  chk (Sh b20 = some (.inl 2)) <|
  (fX2_fill n Sh M b20).bind fun r21 =>
  fX6_checksum_96 n Sh a0 r21 r19 0
noncomputable def fX6_checksum_30b (n : Nat) (Sh : Sp) (a0 : Nat) (M : Mm) (v3 : Int32) (v1 : Int64) (v4 : Int32) : Option ((Int64 × Int32 × Mm) ⊕ (Int64 × Mm)) :=
  if v4 < v3 then
    tF M a0 7 fun b22 =>
    aN Sh b22 fun x23 =>
    if v4 < x23 then
      tF M a0 7 fun b24 =>
      aI Sh M b24 0 v4 fun x25 =>
      (fX6_mixNode n Sh M a0 v1 x25).bind fun r26 =>
      some (Sum.inl (r26.1, (v4 + 1), r26.2))
    else
      (fX6_checksum_65 n Sh a0 M v1).map Sum.inr
  else
    (fX6_checksum_65 n Sh a0 M v1).map Sum.inr
noncomputable def fX6_checksum_30 (n : Nat) (Sh : Sp) (a0 : Nat) (M : Mm) (v3 : Int32) (v1 : Int64) (v4 : Int32) : Option (Int64 × Mm) :=
  iter n (fun s => fX6_checksum_30b n Sh a0 s.2.2 v3 s.1 s.2.1) (v1, v4, M)
noncomputable def fX6_checksum (n : Nat) (Sh : Sp) (M : Mm) (a0 : Nat) : Option (Int64 × Mm) :=
  (fX6_nodes n Sh M a0).bind fun r27 =>
  (fX6_mix n Sh M (18379 : Int64) (Int32.toInt64 r27)).bind fun r28 =>
  tF M a0 0 fun b29 =>
  gF Sh M b29 3 0 fun b30 =>
  tF M a0 7 fun b31 =>
  chk (Sh b30 = some (.inl 4)) <|
  (fX4_writeOrder n Sh M b30 b31).bind fun r32 =>
  fX6_checksum_30 n Sh a0 r32.2 r32.1 r28 0
set_option maxRecDepth 100000 in
set_option maxHeartbeats 4000000 in
theorem kX6_checksum {l : Launch} {G : Gt} {n : Nat} {Sh : Sp} {M : Mm} {a0 : Nat} (hT : Sh a0 = some (.inl 6)) {r : (Int64 × Mm)} (h : fX6_checksum n Sh M a0 = some r) : Ct l yX6_checksum cX6_checksum 5 (some .long) rmX6_checksum G Sh M [.ref a0] (some (.long r.1)) r.2 := by
  refine Ct.of (by decide) (Nat.le_of_ble_eq_true rfl) ?_
  intro p e s m args below meth c ls C hK hX hP hS hb hlk hr hl
  replace hl : lv_has ls 5 [(0, .ref a0)] := hl
  have J129 : ∀ (M : Mm) (v1 : Int64) (H : Heap) (locs : List Loc) (ls : Array Slot), HM G Sh M H → SS G s s.heap.size H locs → lv_has ls 5 [(0, .ref a0), (1, .long v1)] → fX6_checksum_129 n Sh a0 M v1 = some r → W p l e rmX6_checksum s m args below meth c H locs 0 0 (MQ below (QG G Sh r.2 (some (.long r.1))) args s rmX6_checksum.cells rmX6_checksum.slots (AA G)) (F0 m 129 ls []) := by
    intro M v1 H locs ls hP hS hl h
    unfold fX6_checksum_129 at h
    refine lv_aload_n C.1 C.2.1 dX6_checksum_129 rfl (lv_at hl 0 rfl) ?_
    refine lv_lload_n C.1 C.2.1 dX6_checksum_130 rfl (lv_at hl 1 rfl) ?_
    obtain ⟨r1, hc, h⟩ := bS h
    refine r_V1 C hK hX hb hP hS hl.1 (kX6_mixQueue (hT) hc) hT cl_6 wd_645 mo_X6_mixQueue wd_647 wd_11 ⟨Nat.le_of_ble_eq_true rfl, Nat.le_of_ble_eq_true rfl⟩ ⟨Nat.le_of_ble_eq_true rfl, Nat.le_of_ble_eq_true rfl⟩ rfl (rest := []) rfl (Nat.le_of_ble_eq_true rfl) dX6_checksum_131 (fun H locs hP hS => ?_)
    refine lv_lstore_n (lv' := [(1, .long r1), (0, .ref a0)]) C.1 C.2.1 dX6_checksum_134 rfl hl (by decide) rfl (fun ls hl => ?_)
    refine lv_lload_n C.1 C.2.1 dX6_checksum_135 rfl (lv_at hl 0 rfl) ?_
    refine lv_aload_n C.1 C.2.1 dX6_checksum_136 rfl (lv_at hl 1 rfl) ?_
    refine r_tF C hK hP hT cl_6 (k := 0) (by decide) wd_264 rfl dX6_checksum_137 h (fun b2 h => ?_)
    refine r_gFN C hK hP cl_3 (k := 2) (by decide) (hX.nw wd_214) rfl dX6_checksum_140 h (fun b3 h => ?_)
    obtain ⟨r4, hc, h⟩ := bS h
    refine r_S1 C hK hX hb hP hS hl.1 (kX6_mixWords hc) wd_641 mo_X6_mixWords wd_642 ⟨Nat.le_of_ble_eq_true rfl, Nat.le_of_ble_eq_true rfl⟩ ⟨Nat.le_of_ble_eq_true rfl, Nat.le_of_ble_eq_true rfl⟩ rfl (rest := []) rfl (Nat.le_of_ble_eq_true rfl) dX6_checksum_143 (fun H locs hP hS => ?_)
    refine lv_lstore_n (lv' := [(1, .long r4), (0, .ref a0)]) C.1 C.2.1 dX6_checksum_146 rfl hl (by decide) rfl (fun ls hl => ?_)
    refine lv_lload_n C.1 C.2.1 dX6_checksum_147 rfl (lv_at hl 0 rfl) ?_
    refine lv_aload_n C.1 C.2.1 dX6_checksum_148 rfl (lv_at hl 1 rfl) ?_
    refine r_tF C hK hP hT cl_6 (k := 5) (by decide) wd_269 rfl dX6_checksum_149 h (fun b5 h => ?_)
    refine r_gIN C hK hP cl_5 (k := 1) (by decide) (hX.nw wd_127) rfl dX6_checksum_152 h (fun x6 h => ?_)
    refine lv_i2l C.1 C.2.1 dX6_checksum_155 rfl ?_
    obtain ⟨r7, hc, h⟩ := bS h
    refine r_S1 C hK hX hb hP hS hl.1 (kX6_mix hc) wd_624 mo_X6_mix wd_625 ⟨Nat.le_of_ble_eq_true rfl, Nat.le_of_ble_eq_true rfl⟩ ⟨Nat.le_of_ble_eq_true rfl, Nat.le_of_ble_eq_true rfl⟩ rfl (rest := []) rfl (Nat.le_of_ble_eq_true rfl) dX6_checksum_156 (fun H locs hP hS => ?_)
    refine lv_lstore_n (lv' := [(1, .long r7), (0, .ref a0)]) C.1 C.2.1 dX6_checksum_159 rfl hl (by decide) rfl (fun ls hl => ?_)
    refine lv_lload_n C.1 C.2.1 dX6_checksum_160 rfl (lv_at hl 0 rfl) ?_
    refine lv_aload_n C.1 C.2.1 dX6_checksum_161 rfl (lv_at hl 1 rfl) ?_
    refine r_tI C hK hP hT cl_6 (k := 4) (by decide) wd_268 rfl dX6_checksum_162 h (fun x8 h => ?_)
    refine lv_i2l C.1 C.2.1 dX6_checksum_165 rfl ?_
    obtain ⟨r9, hc, h⟩ := bS h
    refine r_S1 C hK hX hb hP hS hl.1 (kX6_mix hc) wd_624 mo_X6_mix wd_625 ⟨Nat.le_of_ble_eq_true rfl, Nat.le_of_ble_eq_true rfl⟩ ⟨Nat.le_of_ble_eq_true rfl, Nat.le_of_ble_eq_true rfl⟩ rfl (rest := []) rfl (Nat.le_of_ble_eq_true rfl) dX6_checksum_166 (fun H locs hP hS => ?_)
    have e := Option.some.inj h
    exact q_l C hlk hP hS hr (by rw [← e]) (by rw [← e]) dX6_checksum_169
  have J96 : ∀ (M : Mm), ∀ (k : Nat) (v1 : Int64) (v4 : Int32) (H : Heap) (locs : List Loc) (ls : Array Slot), HM G Sh M H → SS G s s.heap.size H locs → lv_has ls 5 [(0, .ref a0), (1, .long v1), (4, .int v4)] → iter k (fun s => fX6_checksum_96b n Sh a0 M s.1 s.2) (v1, v4) = some r → W p l e rmX6_checksum s m args below meth c H locs 0 0 (MQ below (QG G Sh r.2 (some (.long r.1))) args s rmX6_checksum.cells rmX6_checksum.slots (AA G)) (F0 m 96 ls []) := by
    intro M k
    induction k with
    | zero => intro v1 v4 H locs ls hP hS hl h; exact (iter_0 h).elim
    | succ k ih1 =>
      intro v1 v4 H locs ls hP hS hl h
      obtain ⟨z1, h, hz1⟩ := iter_some h
      replace h : fX6_checksum_96b n Sh a0 M v1 v4 = some z1 := h
      unfold fX6_checksum_96b at h
      refine lv_iload C.1 C.2.1 dX6_checksum_96 (lv_at hl 2 rfl) ?_
      refine lv_aload_n C.1 C.2.1 dX6_checksum_98 rfl (lv_at hl 0 rfl) ?_
      refine r_tF C hK hP hT cl_6 (k := 1) (by decide) wd_265 rfl dX6_checksum_99 h (fun b10 h => ?_)
      refine r_gIN C hK hP cl_2 (k := 3) (by decide) (hX.nw wd_241) rfl dX6_checksum_102 h (fun x11 h => ?_)
      refine b_ige (tgt := 129) C dX6_checksum_105 (by decide) h (fun h => ?_) (fun h => ?_)
      · refine lv_lload_n C.1 C.2.1 dX6_checksum_108 rfl (lv_at hl 1 rfl) ?_
        refine lv_aload_n C.1 C.2.1 dX6_checksum_109 rfl (lv_at hl 0 rfl) ?_
        refine r_tF C hK hP hT cl_6 (k := 1) (by decide) wd_265 rfl dX6_checksum_110 h (fun b12 h => ?_)
        refine lv_iload C.1 C.2.1 dX6_checksum_113 (lv_at hl 2 rfl) ?_
        obtain ⟨hs, h⟩ := chk_some h
        obtain ⟨r13, hc, h⟩ := bS h
        refine r_V1 C hK hX hb hP hS hl.1 (kX2_at (hs) hc) hs cl_2 wd_374 mo_X2_at wd_375 wd_376 ⟨Nat.le_of_ble_eq_true rfl, Nat.le_of_ble_eq_true rfl⟩ ⟨Nat.le_of_ble_eq_true rfl, Nat.le_of_ble_eq_true rfl⟩ rfl (rest := [.long v1]) rfl (Nat.le_of_ble_eq_true rfl) dX6_checksum_115 (fun H locs hP hS => ?_)
        refine lv_i2l C.1 C.2.1 dX6_checksum_118 rfl ?_
        obtain ⟨r14, hc, h⟩ := bS h
        refine r_S1 C hK hX hb hP hS hl.1 (kX6_mix hc) wd_624 mo_X6_mix wd_625 ⟨Nat.le_of_ble_eq_true rfl, Nat.le_of_ble_eq_true rfl⟩ ⟨Nat.le_of_ble_eq_true rfl, Nat.le_of_ble_eq_true rfl⟩ rfl (rest := []) rfl (Nat.le_of_ble_eq_true rfl) dX6_checksum_119 (fun H locs hP hS => ?_)
        refine lv_lstore_n (lv' := [(1, .long r14), (0, .ref a0), (4, .int v4)]) C.1 C.2.1 dX6_checksum_122 rfl hl (by decide) rfl (fun ls hl => ?_)
        refine lv_iinc (v := (v4 + 1)) (lv' := [(4, .int (v4 + 1)), (1, .long r14), (0, .ref a0)]) C.1 C.2.1 dX6_checksum_123 hl (k := 2) rfl rfl (by decide) rfl (fun ls hl => ?_)
        refine lv_goto (tgt := 96) C.1 C.2.1 dX6_checksum_126 (by decide) ?_
        have e := Option.some.inj h
        rw [← e] at hz1
        exact ih1 (r14) ((v4 + 1)) _ _ _ hP hS (lv_sub hl [2, 1, 0] rfl) (itK_inl hz1)
      · obtain ⟨w1, h, e⟩ := mS h
        rw [← e] at hz1
        replace e := itK_inr hz1
        rw [e] at h
        exact J129 (M) (v1) _ _ _ hP hS (lv_sub hl [0, 1] rfl) h
  have J65 : ∀ (M : Mm) (v1 : Int64) (H : Heap) (locs : List Loc) (ls : Array Slot), HM G Sh M H → SS G s s.heap.size H locs → lv_has ls 5 [(0, .ref a0), (1, .long v1)] → fX6_checksum_65 n Sh a0 M v1 = some r → W p l e rmX6_checksum s m args below meth c H locs 0 0 (MQ below (QG G Sh r.2 (some (.long r.1))) args s rmX6_checksum.cells rmX6_checksum.slots (AA G)) (F0 m 65 ls []) := by
    intro M v1 H locs ls hP hS hl h
    unfold fX6_checksum_65 at h
    refine lv_lload_n C.1 C.2.1 dX6_checksum_65 rfl (lv_at hl 1 rfl) ?_
    refine lv_aload_n C.1 C.2.1 dX6_checksum_66 rfl (lv_at hl 0 rfl) ?_
    refine r_tF C hK hP hT cl_6 (k := 1) (by decide) wd_265 rfl dX6_checksum_67 h (fun b15 h => ?_)
    obtain ⟨hs, h⟩ := chk_some h
    obtain ⟨r16, hc, h⟩ := bS h
    refine r_V1 C hK hX hb hP hS hl.1 (kX2_focusNow (hs) hc) hs cl_2 wd_382 mo_X2_focusNow wd_383 wd_384 ⟨Nat.le_of_ble_eq_true rfl, Nat.le_of_ble_eq_true rfl⟩ ⟨Nat.le_of_ble_eq_true rfl, Nat.le_of_ble_eq_true rfl⟩ rfl (rest := [.long v1]) rfl (Nat.le_of_ble_eq_true rfl) dX6_checksum_70 (fun H locs hP hS => ?_)
    refine lv_i2l C.1 C.2.1 dX6_checksum_73 rfl ?_
    obtain ⟨r17, hc, h⟩ := bS h
    refine r_S1 C hK hX hb hP hS hl.1 (kX6_mix hc) wd_624 mo_X6_mix wd_625 ⟨Nat.le_of_ble_eq_true rfl, Nat.le_of_ble_eq_true rfl⟩ ⟨Nat.le_of_ble_eq_true rfl, Nat.le_of_ble_eq_true rfl⟩ rfl (rest := []) rfl (Nat.le_of_ble_eq_true rfl) dX6_checksum_74 (fun H locs hP hS => ?_)
    refine lv_aload_n C.1 C.2.1 dX6_checksum_77 rfl (lv_at hl 0 rfl) ?_
    obtain ⟨r18, hc, h⟩ := bS h
    refine r_V1 C hK hX hb hP hS hl.1 (kX6_trap (hT) hc) hT cl_6 wd_644 mo_X6_trap wd_571 wd_572 ⟨Nat.le_of_ble_eq_true rfl, Nat.le_of_ble_eq_true rfl⟩ ⟨Nat.le_of_ble_eq_true rfl, Nat.le_of_ble_eq_true rfl⟩ rfl (rest := [.long r17]) rfl (Nat.le_of_ble_eq_true rfl) dX6_checksum_78 (fun H locs hP hS => ?_)
    refine lv_i2l C.1 C.2.1 dX6_checksum_81 rfl ?_
    obtain ⟨r19, hc, h⟩ := bS h
    refine r_S1 C hK hX hb hP hS hl.1 (kX6_mix hc) wd_624 mo_X6_mix wd_625 ⟨Nat.le_of_ble_eq_true rfl, Nat.le_of_ble_eq_true rfl⟩ ⟨Nat.le_of_ble_eq_true rfl, Nat.le_of_ble_eq_true rfl⟩ rfl (rest := []) rfl (Nat.le_of_ble_eq_true rfl) dX6_checksum_82 (fun H locs hP hS => ?_)
    refine lv_lstore_n (lv' := [(1, .long r19), (0, .ref a0)]) C.1 C.2.1 dX6_checksum_85 rfl hl (by decide) rfl (fun ls hl => ?_)
    refine lv_aload_n C.1 C.2.1 dX6_checksum_86 rfl (lv_at hl 1 rfl) ?_
    refine r_tF C hK hP hT cl_6 (k := 1) (by decide) wd_265 rfl dX6_checksum_87 h (fun b20 h => ?_)
    obtain ⟨hs, h⟩ := chk_some h
    obtain ⟨r21, hc, h⟩ := bS h
    refine r_V0 C hK hX hb hP hS hl.1 (kX2_fill (hs) hc) hs cl_2 wd_333 mo_X2_fill wd_334 wd_335 ⟨Nat.le_of_ble_eq_true rfl, Nat.le_of_ble_eq_true rfl⟩ ⟨Nat.le_of_ble_eq_true rfl, Nat.le_of_ble_eq_true rfl⟩ rfl (rest := []) rfl (Nat.le_of_ble_eq_true rfl) dX6_checksum_90 (fun H locs hP hS => ?_)
    refine lv_iconst (v := 0) C.1 C.2.1 dX6_checksum_93 (by decide) ?_
    refine lv_istore (lv' := [(4, .int 0), (1, .long r19), (0, .ref a0)]) C.1 C.2.1 dX6_checksum_94 hl (by decide) rfl (fun ls hl => ?_)
    exact J96 (r21) n (r19) (0) _ _ _ hP hS (lv_sub hl [2, 1, 0] rfl) h
  have J30 : ∀ (v3 : Int32), ∀ (k : Nat) (v1 : Int64) (v4 : Int32) (M : Mm) (H : Heap) (locs : List Loc) (ls : Array Slot), HM G Sh M H → SS G s s.heap.size H locs → lv_has ls 5 [(0, .ref a0), (1, .long v1), (3, .int v3), (4, .int v4)] → iter k (fun s => fX6_checksum_30b n Sh a0 s.2.2 v3 s.1 s.2.1) (v1, v4, M) = some r → W p l e rmX6_checksum s m args below meth c H locs 0 0 (MQ below (QG G Sh r.2 (some (.long r.1))) args s rmX6_checksum.cells rmX6_checksum.slots (AA G)) (F0 m 30 ls []) := by
    intro v3 k
    induction k with
    | zero => intro v1 v4 M H locs ls hP hS hl h; exact (iter_0 h).elim
    | succ k ih1 =>
      intro v1 v4 M H locs ls hP hS hl h
      obtain ⟨z1, h, hz1⟩ := iter_some h
      replace h : fX6_checksum_30b n Sh a0 M v3 v1 v4 = some z1 := h
      unfold fX6_checksum_30b at h
      refine lv_iload C.1 C.2.1 dX6_checksum_30 (lv_at hl 3 rfl) ?_
      refine lv_iload_n C.1 C.2.1 dX6_checksum_32 rfl (lv_at hl 2 rfl) ?_
      refine b_ige (tgt := 65) C dX6_checksum_33 (by decide) h (fun h => ?_) (fun h => ?_)
      · refine lv_iload C.1 C.2.1 dX6_checksum_36 (lv_at hl 3 rfl) ?_
        refine lv_aload_n C.1 C.2.1 dX6_checksum_38 rfl (lv_at hl 0 rfl) ?_
        refine r_tF C hK hP hT cl_6 (k := 7) (by decide) wd_271 rfl dX6_checksum_39 h (fun b22 h => ?_)
        refine r_aN C hK hP dX6_checksum_42 h (fun x23 h => ?_)
        refine b_ige (tgt := 65) C dX6_checksum_43 (by decide) h (fun h => ?_) (fun h => ?_)
        · refine lv_aload_n C.1 C.2.1 dX6_checksum_46 rfl (lv_at hl 0 rfl) ?_
          refine lv_lload_n C.1 C.2.1 dX6_checksum_47 rfl (lv_at hl 1 rfl) ?_
          refine lv_aload_n C.1 C.2.1 dX6_checksum_48 rfl (lv_at hl 0 rfl) ?_
          refine r_tF C hK hP hT cl_6 (k := 7) (by decide) wd_271 rfl dX6_checksum_49 h (fun b24 h => ?_)
          refine lv_iload C.1 C.2.1 dX6_checksum_52 (lv_at hl 3 rfl) ?_
          refine r_aI C hK hP dX6_checksum_54 h (fun x25 h => ?_)
          obtain ⟨r26, hc, h⟩ := bS h
          refine r_V1 C hK hX hb hP hS hl.1 (kX6_mixNode (hT) hc) hT cl_6 wd_628 mo_X6_mixNode wd_630 wd_10 ⟨Nat.le_of_ble_eq_true rfl, Nat.le_of_ble_eq_true rfl⟩ ⟨Nat.le_of_ble_eq_true rfl, Nat.le_of_ble_eq_true rfl⟩ rfl (rest := []) rfl (Nat.le_of_ble_eq_true rfl) dX6_checksum_55 (fun H locs hP hS => ?_)
          refine lv_lstore_n (lv' := [(1, .long r26.1), (0, .ref a0), (3, .int v3), (4, .int v4)]) C.1 C.2.1 dX6_checksum_58 rfl hl (by decide) rfl (fun ls hl => ?_)
          refine lv_iinc (v := (v4 + 1)) (lv' := [(4, .int (v4 + 1)), (1, .long r26.1), (0, .ref a0), (3, .int v3)]) C.1 C.2.1 dX6_checksum_59 hl (k := 3) rfl rfl (by decide) rfl (fun ls hl => ?_)
          refine lv_goto (tgt := 30) C.1 C.2.1 dX6_checksum_62 (by decide) ?_
          have e := Option.some.inj h
          rw [← e] at hz1
          exact ih1 (r26.1) ((v4 + 1)) r26.2 _ _ _ hP hS (lv_sub hl [2, 1, 3, 0] rfl) (itK_inl hz1)
        · obtain ⟨w1, h, e⟩ := mS h
          rw [← e] at hz1
          replace e := itK_inr hz1
          rw [e] at h
          exact J65 (M) (v1) _ _ _ hP hS (lv_sub hl [0, 1] rfl) h
      · obtain ⟨w1, h, e⟩ := mS h
        rw [← e] at hz1
        replace e := itK_inr hz1
        rw [e] at h
        exact J65 (M) (v1) _ _ _ hP hS (lv_sub hl [0, 1] rfl) h
  unfold fX6_checksum at h
  refine lv_ldc2 (v := 18379) C.1 C.2.1 C.2.2.2.1 (C.2.2.2.2 _ wd_622) dX6_checksum_0 ?_
  refine lv_aload_n C.1 C.2.1 dX6_checksum_3 rfl (lv_at hl 0 rfl) ?_
  obtain ⟨r27, hc, h⟩ := bS h
  refine r_V1 C hK hX hb hP hS hl.1 (kX6_nodes (hT) hc) hT cl_6 wd_623 mo_X6_nodes wd_290 wd_291 ⟨Nat.le_of_ble_eq_true rfl, Nat.le_of_ble_eq_true rfl⟩ ⟨Nat.le_of_ble_eq_true rfl, Nat.le_of_ble_eq_true rfl⟩ rfl (rest := [.long (18379 : Int64)]) rfl (Nat.le_of_ble_eq_true rfl) dX6_checksum_4 (fun H locs hP hS => ?_)
  refine lv_i2l C.1 C.2.1 dX6_checksum_7 rfl ?_
  obtain ⟨r28, hc, h⟩ := bS h
  refine r_S1 C hK hX hb hP hS hl.1 (kX6_mix hc) wd_624 mo_X6_mix wd_625 ⟨Nat.le_of_ble_eq_true rfl, Nat.le_of_ble_eq_true rfl⟩ ⟨Nat.le_of_ble_eq_true rfl, Nat.le_of_ble_eq_true rfl⟩ rfl (rest := []) rfl (Nat.le_of_ble_eq_true rfl) dX6_checksum_8 (fun H locs hP hS => ?_)
  refine lv_lstore_n (lv' := [(1, .long r28), (0, .ref a0)]) C.1 C.2.1 dX6_checksum_11 rfl hl (by decide) rfl (fun ls hl => ?_)
  refine lv_aload_n C.1 C.2.1 dX6_checksum_12 rfl (lv_at hl 1 rfl) ?_
  refine r_tF C hK hP hT cl_6 (k := 0) (by decide) wd_264 rfl dX6_checksum_13 h (fun b29 h => ?_)
  refine r_gFN C hK hP cl_3 (k := 0) (by decide) (hX.nw wd_209) rfl dX6_checksum_16 h (fun b30 h => ?_)
  refine lv_aload_n C.1 C.2.1 dX6_checksum_19 rfl (lv_at hl 1 rfl) ?_
  refine r_tF C hK hP hT cl_6 (k := 7) (by decide) wd_271 rfl dX6_checksum_20 h (fun b31 h => ?_)
  obtain ⟨hs, h⟩ := chk_some h
  obtain ⟨r32, hc, h⟩ := bS h
  refine r_V1 C hK hX hb hP hS hl.1 (kX4_writeOrder (hs) hc) hs cl_4 wd_313 mo_X4_writeOrder wd_314 wd_315 ⟨Nat.le_of_ble_eq_true rfl, Nat.le_of_ble_eq_true rfl⟩ ⟨Nat.le_of_ble_eq_true rfl, Nat.le_of_ble_eq_true rfl⟩ rfl (rest := []) rfl (Nat.le_of_ble_eq_true rfl) dX6_checksum_23 (fun H locs hP hS => ?_)
  refine lv_istore_n (lv' := [(3, .int r32.1), (1, .long r28), (0, .ref a0)]) C.1 C.2.1 dX6_checksum_26 rfl hl (by decide) rfl (fun ls hl => ?_)
  refine lv_iconst (v := 0) C.1 C.2.1 dX6_checksum_27 (by decide) ?_
  refine lv_istore (lv' := [(4, .int 0), (3, .int r32.1), (1, .long r28), (0, .ref a0)]) C.1 C.2.1 dX6_checksum_28 hl (by decide) rfl (fun ls hl => ?_)
  exact J30 (r32.1) n (r28) (0) r32.2 _ _ _ hP hS (lv_sub hl [3, 2, 1, 0] rfl) h
