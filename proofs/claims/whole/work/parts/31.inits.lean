theorem mo_X0_init : MOK yX0_init cX0_init 2 none 1 := ⟨wd_255, wd_81, by decide +kernel, by decide +kernel, by decide +kernel⟩
theorem mo_X1_init : MOK yX1_init cX1_init 2 none 0 := ⟨wd_185, wd_79, by decide +kernel, by decide +kernel, by decide +kernel⟩
theorem mo_X2_init : MOK yX2_init cX2_init 2 none 1 := ⟨wd_235, wd_80, by decide +kernel, by decide +kernel, by decide +kernel⟩
theorem mo_X3_init : MOK yX3_init cX3_init 1 none 0 := ⟨wd_108, wd_76, by decide +kernel, by decide +kernel, by decide +kernel⟩
theorem mo_X4_init : MOK yX4_init cX4_init 2 none 0 := ⟨wd_114, wd_77, by decide +kernel, by decide +kernel, by decide +kernel⟩
theorem mo_X5_init : MOK yX5_init cX5_init 2 none 1 := ⟨wd_121, wd_78, by decide +kernel, by decide +kernel, by decide +kernel⟩
theorem mo_X6_announcement : MOK yX6_announcement cX6_announcement 3 (some .int) 2 := ⟨wd_1022, wd_75, by decide +kernel, by decide +kernel, by decide +kernel⟩
theorem mo_X6_canFocus : MOK yX6_canFocus cX6_canFocus 2 (some .boolean) 1 := ⟨wd_964, wd_75, by decide +kernel, by decide +kernel, by decide +kernel⟩
theorem mo_X6_cellAt : MOK yX6_cellAt cX6_cellAt 4 (some .int) 3 := ⟨wd_1059, wd_75, by decide +kernel, by decide +kernel, by decide +kernel⟩
theorem mo_X6_cellPlace : MOK yX6_cellPlace cX6_cellPlace 3 (some .int) 2 := ⟨wd_1029, wd_75, by decide +kernel, by decide +kernel, by decide +kernel⟩
theorem mo_X6_character : MOK yX6_character cX6_character 4 (some .int) 3 := ⟨wd_939, wd_75, by decide +kernel, by decide +kernel, by decide +kernel⟩
theorem mo_X6_child : MOK yX6_child cX6_child 3 (some .int) 2 := ⟨wd_849, wd_75, by decide +kernel, by decide +kernel, by decide +kernel⟩
theorem mo_X6_close : MOK yX6_close cX6_close 3 (some .int) 1 := ⟨wd_998, wd_75, by decide +kernel, by decide +kernel, by decide +kernel⟩
theorem mo_X6_create : MOK yX6_create cX6_create 5 (some .int) 3 := ⟨wd_670, wd_75, by decide +kernel, by decide +kernel, by decide +kernel⟩
theorem mo_X6_focusOn : MOK yX6_focusOn cX6_focusOn 3 (some .int) 1 := ⟨wd_972, wd_75, by decide +kernel, by decide +kernel, by decide +kernel⟩
theorem mo_X6_header : MOK yX6_header cX6_header 3 (some .int) 2 := ⟨wd_1074, wd_75, by decide +kernel, by decide +kernel, by decide +kernel⟩
theorem mo_X6_info : MOK yX6_info cX6_info 3 (some .int) 2 := ⟨wd_838, wd_75, by decide +kernel, by decide +kernel, by decide +kernel⟩
theorem mo_X6_length : MOK yX6_length cX6_length 3 (some .int) 2 := ⟨wd_957, wd_75, by decide +kernel, by decide +kernel, by decide +kernel⟩
theorem mo_X6_move : MOK yX6_move cX6_move 7 (some .int) 3 := ⟨wd_827, wd_75, by decide +kernel, by decide +kernel, by decide +kernel⟩
theorem mo_X6_open : MOK yX6_open cX6_open 3 (some .int) 1 := ⟨wd_980, wd_75, by decide +kernel, by decide +kernel, by decide +kernel⟩
theorem mo_X6_read : MOK yX6_read cX6_read 2 (some .int) 1 := ⟨wd_1098, wd_75, by decide +kernel, by decide +kernel, by decide +kernel⟩
theorem mo_X6_readBeside : MOK yX6_readBeside cX6_readBeside 3 (some .int) 1 := ⟨wd_1114, wd_75, by decide +kernel, by decide +kernel, by decide +kernel⟩
theorem mo_X6_region : MOK yX6_region cX6_region 2 (some .int) 1 := ⟨wd_1014, wd_75, by decide +kernel, by decide +kernel, by decide +kernel⟩
theorem mo_X6_remove : MOK yX6_remove cX6_remove 3 (some .int) 1 := ⟨wd_792, wd_75, by decide +kernel, by decide +kernel, by decide +kernel⟩
theorem mo_X6_set : MOK yX6_set cX6_set 5 (some .int) 3 := ⟨wd_857, wd_75, by decide +kernel, by decide +kernel, by decide +kernel⟩
theorem mo_X6_setLabel : MOK yX6_setLabel cX6_setLabel 2 (some .int) 1 := ⟨wd_918, wd_75, by decide +kernel, by decide +kernel, by decide +kernel⟩
theorem mo_X6_setLabelledBy : MOK yX6_setLabelledBy cX6_setLabelledBy 4 (some .int) 2 := ⟨wd_926, wd_75, by decide +kernel, by decide +kernel, by decide +kernel⟩
theorem mo_X6_setText : MOK yX6_setText cX6_setText 3 (some .int) 1 := ⟨wd_899, wd_75, by decide +kernel, by decide +kernel, by decide +kernel⟩
theorem mo_X6_type : MOK yX6_type cX6_type 2 (some .int) 1 := ⟨wd_1126, wd_75, by decide +kernel, by decide +kernel, by decide +kernel⟩
theorem mo_X6_undo : MOK yX6_undo cX6_undo 1 (some .int) 0 := ⟨wd_1136, wd_75, by decide +kernel, by decide +kernel, by decide +kernel⟩
theorem w_objc : Cond.code Lib.objectInit ⟨#[0xb1]⟩ 1 none ∈ GW := gw_of 103 (by decide +kernel) (by decide +kernel)
theorem dX5_init_0 : decode cX5_init 0 = .ok (.aload_n 0, 1) := by decide +kernel
theorem dX5_init_1 : decode cX5_init 1 = .ok (.invokespecial 3, 3) := by decide +kernel
theorem dX5_init_4 : decode cX5_init 4 = .ok (.aload_n 0, 1) := by decide +kernel
theorem dX5_init_5 : decode cX5_init 5 = .ok (.iconst 0, 1) := by decide +kernel
theorem dX5_init_6 : decode cX5_init 6 = .ok (.putfield 9, 3) := by decide +kernel
theorem dX5_init_9 : decode cX5_init 9 = .ok (.aload_n 0, 1) := by decide +kernel
theorem dX5_init_10 : decode cX5_init 10 = .ok (.iload_n 1, 1) := by decide +kernel
theorem dX5_init_11 : decode cX5_init 11 = .ok (.ifCond .ge 7, 3) := by decide +kernel
theorem dX5_init_14 : decode cX5_init 14 = .ok (.iconst 0, 1) := by decide +kernel
theorem dX5_init_15 : decode cX5_init 15 = .ok (.goto 4, 3) := by decide +kernel
theorem dX5_init_18 : decode cX5_init 18 = .ok (.iload_n 1, 1) := by decide +kernel
theorem dX5_init_19 : decode cX5_init 19 = .ok (.newarray .char, 2) := by decide +kernel
theorem dX5_init_21 : decode cX5_init 21 = .ok (.putfield 15, 3) := by decide +kernel
theorem dX5_init_24 : decode cX5_init 24 = .ok (.return_, 1) := by decide +kernel
abbrev rmX5_init : Room := { frames := 2, cells := 1, slots := 256, locals := 60 }
noncomputable def fX5_init (n : Nat) (Sh : Sp) (M : Mm) (nx : Nat) (a0 : Nat) (a1 : Int32) : Option (Sp × Mm × Nat) :=
  pI Sh M a0 5 1 0 fun M1 =>
  if a1 < 0 then
    nA Sh M1 nx 1 0 0 fun S2 M3 n4 =>
    pF S2 M3 a0 5 0 nx fun M5 =>
    some (S2, M5, n4)
  else
    nA Sh M1 nx 1 256 a1 fun S6 M7 n8 =>
    pF S6 M7 a0 5 0 nx fun M9 =>
    some (S6, M9, n8)
set_option maxRecDepth 100000 in
set_option maxHeartbeats 4000000 in
theorem kX5_init {l : Launch} {G : Gt} {n : Nat} {Sh : Sp} {M : Mm} {nx : Nat} {a0 : Nat} {a1 : Int32} {r : Sp × Mm × Nat} (h : fX5_init n Sh M nx a0 a1 = some r) : CtN l yX5_init cX5_init 2 rmX5_init G Sh M nx [.ref a0, .int a1] r := by
  refine CtN.of (by decide) rfl (Nat.le_of_ble_eq_true rfl) ?_
  intro p e s m args below meth c ls C hK hX hP hS hb hlk hr hin hl
  replace hl : lv_has ls 2 [(0, .ref a0), (1, .int a1)] := hl
  unfold fX5_init at h
  refine lv_aload_n C.1 C.2.1 dX5_init_0 rfl (lv_at hl 0 rfl) ?_
  refine W.objInit (rest := []) C.1 C.2.1 C.2.2.2.1 (C.2.2.2.2 _ wd_122) (C.2.2.2.2 _ wd_102) (C.2.2.2.2 _ w_objc) rfl (hl.1.trans C.2.2.1.symm) rfl dX5_init_1 (Nat.le_of_ble_eq_true rfl) (by show 2 * 0 + _ + 12 ≤ _; exact Nat.le_of_ble_eq_true rfl) ?_
  refine W.eq (g2 := F0 m 4 ls []) rfl ?_
  refine lv_aload_n C.1 C.2.1 dX5_init_4 rfl (lv_at hl 0 rfl) ?_
  refine lv_iconst (v := 0) C.1 C.2.1 dX5_init_5 (by decide) ?_
  refine r_pI C hK hP hS cl_5 (k := 1) (by decide) wd_124 rfl rfl (tyX5_ok 1 (by decide)) dX5_init_6 h (fun M1 H locs h hP hS => ?_)
  refine lv_aload_n C.1 C.2.1 dX5_init_9 rfl (lv_at hl 0 rfl) ?_
  refine lv_iload_n C.1 C.2.1 dX5_init_10 rfl (lv_at hl 1 rfl) ?_
  refine b_ge (tgt := 18) C dX5_init_11 (by decide) h (fun h => ?_) (fun h => ?_)
  · refine lv_iconst (v := 0) C.1 C.2.1 dX5_init_14 (by decide) ?_
    refine lv_goto (tgt := 19) C.1 C.2.1 dX5_init_15 (by decide) ?_
    refine r_newA (atype := .char) (k1 := 1) (k2 := 0) C hK hb hP hS wd_135 (by decide) rfl (by decide) ⟨Nat.le_of_ble_eq_true rfl, Nat.le_of_ble_eq_true rfl⟩ ⟨Nat.le_of_ble_eq_true rfl, Nat.le_of_ble_eq_true rfl⟩ dX5_init_19 h (fun S2 M3 n4 H locs h hP hS => ?_)
    refine r_pFin C hK hP hS hin cl_5 (k := 0) (by decide) wd_123 rfl rfl rfl (tyX5_ok 0 (by decide)) rfl rfl dX5_init_21 h (fun M5 H locs h hP hS => ?_)
    have e := Option.some.inj h
    refine W.widen (k := 1) (n := 256) (Nat.le_of_ble_eq_true rfl) (Nat.le_of_ble_eq_true rfl) ?_
    exact q_N C hlk hP hS hr e dX5_init_24
  · refine lv_iload_n C.1 C.2.1 dX5_init_18 rfl (lv_at hl 1 rfl) ?_
    refine r_newA (atype := .char) (k1 := 1) (k2 := 256) C hK hb hP hS wd_135 (by decide) rfl (by decide) ⟨Nat.le_of_ble_eq_true rfl, Nat.le_of_ble_eq_true rfl⟩ ⟨Nat.le_of_ble_eq_true rfl, Nat.le_of_ble_eq_true rfl⟩ dX5_init_19 h (fun S6 M7 n8 H locs h hP hS => ?_)
    refine r_pFin C hK hP hS hin cl_5 (k := 0) (by decide) wd_123 rfl rfl rfl (tyX5_ok 0 (by decide)) rfl rfl dX5_init_21 h (fun M9 H locs h hP hS => ?_)
    have e := Option.some.inj h
    refine W.widen (k := 1) (n := 256) (Nat.le_of_ble_eq_true rfl) (Nat.le_of_ble_eq_true rfl) ?_
    exact q_N C hlk hP hS hr e dX5_init_24
theorem dX4_init_0 : decode cX4_init 0 = .ok (.aload_n 0, 1) := by decide +kernel
theorem dX4_init_1 : decode cX4_init 1 = .ok (.invokespecial 3, 3) := by decide +kernel
theorem dX4_init_4 : decode cX4_init 4 = .ok (.aload_n 0, 1) := by decide +kernel
theorem dX4_init_5 : decode cX4_init 5 = .ok (.bipush 24, 2) := by decide +kernel
theorem dX4_init_7 : decode cX4_init 7 = .ok (.newarray .int, 2) := by decide +kernel
theorem dX4_init_9 : decode cX4_init 9 = .ok (.putfield 9, 3) := by decide +kernel
theorem dX4_init_12 : decode cX4_init 12 = .ok (.aload_n 0, 1) := by decide +kernel
theorem dX4_init_13 : decode cX4_init 13 = .ok (.bipush 24, 2) := by decide +kernel
theorem dX4_init_15 : decode cX4_init 15 = .ok (.newarray .int, 2) := by decide +kernel
theorem dX4_init_17 : decode cX4_init 17 = .ok (.putfield 15, 3) := by decide +kernel
theorem dX4_init_20 : decode cX4_init 20 = .ok (.aload_n 0, 1) := by decide +kernel
theorem dX4_init_21 : decode cX4_init 21 = .ok (.bipush 24, 2) := by decide +kernel
theorem dX4_init_23 : decode cX4_init 23 = .ok (.newarray .int, 2) := by decide +kernel
theorem dX4_init_25 : decode cX4_init 25 = .ok (.putfield 18, 3) := by decide +kernel
theorem dX4_init_28 : decode cX4_init 28 = .ok (.aload_n 0, 1) := by decide +kernel
theorem dX4_init_29 : decode cX4_init 29 = .ok (.sipush 576, 3) := by decide +kernel
theorem dX4_init_32 : decode cX4_init 32 = .ok (.newarray .int, 2) := by decide +kernel
theorem dX4_init_34 : decode cX4_init 34 = .ok (.putfield 21, 3) := by decide +kernel
theorem dX4_init_37 : decode cX4_init 37 = .ok (.aload_n 0, 1) := by decide +kernel
theorem dX4_init_38 : decode cX4_init 38 = .ok (.bipush 24, 2) := by decide +kernel
theorem dX4_init_40 : decode cX4_init 40 = .ok (.newarray .int, 2) := by decide +kernel
theorem dX4_init_42 : decode cX4_init 42 = .ok (.putfield 24, 3) := by decide +kernel
theorem dX4_init_45 : decode cX4_init 45 = .ok (.aload_n 0, 1) := by decide +kernel
theorem dX4_init_46 : decode cX4_init 46 = .ok (.bipush 120, 2) := by decide +kernel
theorem dX4_init_48 : decode cX4_init 48 = .ok (.newarray .int, 2) := by decide +kernel
theorem dX4_init_50 : decode cX4_init 50 = .ok (.putfield 27, 3) := by decide +kernel
theorem dX4_init_53 : decode cX4_init 53 = .ok (.aload_n 0, 1) := by decide +kernel
theorem dX4_init_54 : decode cX4_init 54 = .ok (.bipush 24, 2) := by decide +kernel
theorem dX4_init_56 : decode cX4_init 56 = .ok (.anewarray 30, 3) := by decide +kernel
theorem dX4_init_59 : decode cX4_init 59 = .ok (.putfield 32, 3) := by decide +kernel
theorem dX4_init_62 : decode cX4_init 62 = .ok (.aload_n 0, 1) := by decide +kernel
theorem dX4_init_63 : decode cX4_init 63 = .ok (.bipush 24, 2) := by decide +kernel
theorem dX4_init_65 : decode cX4_init 65 = .ok (.anewarray 30, 3) := by decide +kernel
theorem dX4_init_68 : decode cX4_init 68 = .ok (.putfield 36, 3) := by decide +kernel
theorem dX4_init_71 : decode cX4_init 71 = .ok (.aload_n 0, 1) := by decide +kernel
theorem dX4_init_72 : decode cX4_init 72 = .ok (.bipush 24, 2) := by decide +kernel
theorem dX4_init_74 : decode cX4_init 74 = .ok (.newarray .int, 2) := by decide +kernel
theorem dX4_init_76 : decode cX4_init 76 = .ok (.putfield 39, 3) := by decide +kernel
theorem dX4_init_79 : decode cX4_init 79 = .ok (.aload_n 0, 1) := by decide +kernel
theorem dX4_init_80 : decode cX4_init 80 = .ok (.iconst 0, 1) := by decide +kernel
theorem dX4_init_81 : decode cX4_init 81 = .ok (.putfield 42, 3) := by decide +kernel
theorem dX4_init_84 : decode cX4_init 84 = .ok (.aload_n 0, 1) := by decide +kernel
theorem dX4_init_85 : decode cX4_init 85 = .ok (.bipush 24, 2) := by decide +kernel
theorem dX4_init_87 : decode cX4_init 87 = .ok (.newarray .int, 2) := by decide +kernel
theorem dX4_init_89 : decode cX4_init 89 = .ok (.putfield 46, 3) := by decide +kernel
theorem dX4_init_92 : decode cX4_init 92 = .ok (.aload_n 0, 1) := by decide +kernel
theorem dX4_init_93 : decode cX4_init 93 = .ok (.new 30, 3) := by decide +kernel
theorem dX4_init_96 : decode cX4_init 96 = .ok (.dup, 1) := by decide +kernel
theorem dX4_init_97 : decode cX4_init 97 = .ok (.iconst 0, 1) := by decide +kernel
theorem dX4_init_98 : decode cX4_init 98 = .ok (.invokespecial 49, 3) := by decide +kernel
theorem dX4_init_101 : decode cX4_init 101 = .ok (.putfield 52, 3) := by decide +kernel
theorem dX4_init_104 : decode cX4_init 104 = .ok (.iconst 0, 1) := by decide +kernel
theorem dX4_init_105 : decode cX4_init 105 = .ok (.istore_n 1, 1) := by decide +kernel
theorem dX4_init_106 : decode cX4_init 106 = .ok (.iload_n 1, 1) := by decide +kernel
theorem dX4_init_107 : decode cX4_init 107 = .ok (.bipush 24, 2) := by decide +kernel
theorem dX4_init_109 : decode cX4_init 109 = .ok (.if_icmp .ge 45, 3) := by decide +kernel
theorem dX4_init_112 : decode cX4_init 112 = .ok (.aload_n 0, 1) := by decide +kernel
theorem dX4_init_113 : decode cX4_init 113 = .ok (.getfield 32, 3) := by decide +kernel
theorem dX4_init_116 : decode cX4_init 116 = .ok (.iload_n 1, 1) := by decide +kernel
theorem dX4_init_117 : decode cX4_init 117 = .ok (.new 30, 3) := by decide +kernel
theorem dX4_init_120 : decode cX4_init 120 = .ok (.dup, 1) := by decide +kernel
theorem dX4_init_121 : decode cX4_init 121 = .ok (.bipush 8, 2) := by decide +kernel
theorem dX4_init_123 : decode cX4_init 123 = .ok (.invokespecial 49, 3) := by decide +kernel
theorem dX4_init_126 : decode cX4_init 126 = .ok (.aastore, 1) := by decide +kernel
theorem dX4_init_127 : decode cX4_init 127 = .ok (.aload_n 0, 1) := by decide +kernel
theorem dX4_init_128 : decode cX4_init 128 = .ok (.getfield 36, 3) := by decide +kernel
theorem dX4_init_131 : decode cX4_init 131 = .ok (.iload_n 1, 1) := by decide +kernel
theorem dX4_init_132 : decode cX4_init 132 = .ok (.new 30, 3) := by decide +kernel
theorem dX4_init_135 : decode cX4_init 135 = .ok (.dup, 1) := by decide +kernel
theorem dX4_init_136 : decode cX4_init 136 = .ok (.bipush 8, 2) := by decide +kernel
theorem dX4_init_138 : decode cX4_init 138 = .ok (.invokespecial 49, 3) := by decide +kernel
theorem dX4_init_141 : decode cX4_init 141 = .ok (.aastore, 1) := by decide +kernel
theorem dX4_init_142 : decode cX4_init 142 = .ok (.aload_n 0, 1) := by decide +kernel
theorem dX4_init_143 : decode cX4_init 143 = .ok (.iload_n 1, 1) := by decide +kernel
theorem dX4_init_144 : decode cX4_init 144 = .ok (.iconst (-1), 1) := by decide +kernel
theorem dX4_init_145 : decode cX4_init 145 = .ok (.invokevirtual 56, 3) := by decide +kernel
theorem dX4_init_148 : decode cX4_init 148 = .ok (.iinc 1 1, 3) := by decide +kernel
theorem dX4_init_151 : decode cX4_init 151 = .ok (.goto (-45), 3) := by decide +kernel
theorem dX4_init_154 : decode cX4_init 154 = .ok (.aload_n 0, 1) := by decide +kernel
theorem dX4_init_155 : decode cX4_init 155 = .ok (.iconst 0, 1) := by decide +kernel
theorem dX4_init_156 : decode cX4_init 156 = .ok (.iconst 0, 1) := by decide +kernel
theorem dX4_init_157 : decode cX4_init 157 = .ok (.invokevirtual 56, 3) := by decide +kernel
theorem dX4_init_160 : decode cX4_init 160 = .ok (.return_, 1) := by decide +kernel
abbrev rmX4_init : Room := { frames := 3, cells := 112, slots := 14046, locals := 83 }
noncomputable def fX4_init_106b (n : Nat) (a0 : Nat) (v1 : Int32) (Sh : Sp) (M : Mm) (nx : Nat) : Option ((Int32 × Sp × Mm × Nat) ⊕ (Sp × Mm × Nat)) :=
  if v1 < 24 then
    gF Sh M a0 4 6 fun b61 =>
    nO Sh M nx 5 fun S62 M63 n64 =>
    (fX5_init n S62 M63 n64 nx 8).bind fun r65 =>
    sR r65.1 r65.2.1 b61 4 5 v1 nx fun M66 =>
    gF r65.1 M66 a0 4 7 fun b67 =>
    nO r65.1 M66 r65.2.2 5 fun S68 M69 n70 =>
    (fX5_init n S68 M69 n70 r65.2.2 8).bind fun r71 =>
    sR r71.1 r71.2.1 b67 4 5 v1 r65.2.2 fun M72 =>
    chk (r71.1 a0 = some (.inl 4)) <|
    (fX4_begin n r71.1 M72 a0 v1 (-1)).bind fun r73 =>
    some (Sum.inl ((v1 + 1), r71.1, r73, r71.2.2))
  else
    chk (Sh a0 = some (.inl 4)) <|
    (fX4_begin n Sh M a0 0 0).bind fun r74 =>
    some (Sum.inr (Sh, r74, nx))
noncomputable def fX4_init (n : Nat) (Sh : Sp) (M : Mm) (nx : Nat) (a0 : Nat) : Option (Sp × Mm × Nat) :=
  nA Sh M nx 0 24 24 fun S1 M2 n3 =>
  pF S1 M2 a0 4 0 nx fun M4 =>
  nA S1 M4 n3 0 24 24 fun S5 M6 n7 =>
  pF S5 M6 a0 4 1 n3 fun M8 =>
  nA S5 M8 n7 0 24 24 fun S9 M10 n11 =>
  pF S9 M10 a0 4 2 n7 fun M12 =>
  nA S9 M12 n11 0 576 576 fun S13 M14 n15 =>
  pF S13 M14 a0 4 3 n11 fun M16 =>
  nA S13 M16 n15 0 24 24 fun S17 M18 n19 =>
  pF S17 M18 a0 4 4 n15 fun M20 =>
  nA S17 M20 n19 0 120 120 fun S21 M22 n23 =>
  pF S21 M22 a0 4 5 n19 fun M24 =>
  nA S21 M24 n23 4 24 24 fun S25 M26 n27 =>
  pF S25 M26 a0 4 6 n23 fun M28 =>
  nA S25 M28 n27 4 24 24 fun S29 M30 n31 =>
  pF S29 M30 a0 4 7 n27 fun M32 =>
  nA S29 M32 n31 0 24 24 fun S33 M34 n35 =>
  pF S33 M34 a0 4 8 n31 fun M36 =>
  pI S33 M36 a0 4 9 0 fun M37 =>
  nA S33 M37 n35 0 24 24 fun S38 M39 n40 =>
  pF S38 M39 a0 4 10 n35 fun M41 =>
  nO S38 M41 n40 5 fun S42 M43 n44 =>
  (fX5_init n S42 M43 n44 n40 0).bind fun r45 =>
  pF r45.1 r45.2.1 a0 4 11 n40 fun M46 =>
  iter 25 (fun s => fX4_init_106b n a0 s.1 s.2.1 s.2.2.1 s.2.2.2) (0, r45.1, M46, r45.2.2)
set_option maxRecDepth 100000 in
set_option maxHeartbeats 4000000 in
theorem kX4_init {l : Launch} {G : Gt} {n : Nat} {Sh : Sp} {M : Mm} {nx : Nat} {a0 : Nat} {r : Sp × Mm × Nat} (h : fX4_init n Sh M nx a0 = some r) : CtN l yX4_init cX4_init 2 rmX4_init G Sh M nx [.ref a0] r := by
  refine CtN.of (by decide) rfl (Nat.le_of_ble_eq_true rfl) ?_
  intro p e s m args below meth c ls C hK hX hP hS hb hlk hr hin hl
  replace hl : lv_has ls 2 [(0, .ref a0)] := hl
  have J : ∀ (k : Nat) (v1 : Int32) (Sh : Sp) (M : Mm) (nx cl sl : Nat) (H : Heap) (locs : List Loc) (ls : Array Slot), cl + 4 * k ≤ 112 → sl + 516 * k ≤ 14046 → HM G Sh M H → SS G s nx H locs → lv_has ls 2 [(0, .ref a0), (1, .int v1)] → iter k (fun s => fX4_init_106b n a0 s.1 s.2.1 s.2.2.1 s.2.2.2) (v1, Sh, M, nx) = some r → W p l e rmX4_init s m args below meth c H locs cl sl (MQ below (QN G r) args s rmX4_init.cells rmX4_init.slots (AA G)) (F0 m 106 ls []) := by
    intro k
    induction k with
    | zero => intro v1 Sh M nx cl sl H locs ls hc1 hc2 hP hS hl h; exact (iter_0 h).elim
    | succ k ih =>
      intro v1 Sh M nx cl sl H locs ls hc1 hc2 hP hS hl h
      obtain ⟨z1, h, hz1⟩ := iter_some h
      replace h : fX4_init_106b n a0 v1 Sh M nx = some z1 := h
      unfold fX4_init_106b at h
      refine lv_iload_n C.1 C.2.1 dX4_init_106 rfl (lv_at hl 1 rfl) ?_
      refine lv_bipush (v := 24) C.1 C.2.1 dX4_init_107 (by decide) ?_
      refine b_ige (tgt := 154) C dX4_init_109 (by decide) h (fun h => ?_) (fun h => ?_)
      · refine lv_aload_n C.1 C.2.1 dX4_init_112 rfl (lv_at hl 0 rfl) ?_
        refine r_gF C hK hP cl_4 (k := 6) (by decide) wd_150 rfl dX4_init_113 h (fun b61 h => ?_)
        refine lv_iload_n C.1 C.2.1 dX4_init_116 rfl (lv_at hl 1 rfl) ?_
        refine r_new (k1 := cl + 1) (k2 := sl + 2) C hK hb hP hS cl_5 tyX5 tyX5_ok (by intro k hk; rcases (by omega : k = 0 ∨ k = 1) with rfl | rfl <;> rfl) wd_116 wd_118 wd_78 ⟨by omega, by omega⟩ ⟨show cl + 1 ≤ 112 by omega, show sl + 2 ≤ 14046 by omega⟩ dX4_init_117 h (fun S62 M63 n64 H locs h hP hS => ?_)
        refine lv_dup C.1 C.2.1 dX4_init_120 rfl ?_
        refine lv_bipush (v := 8) C.1 C.2.1 dX4_init_121 (by decide) ?_
        obtain ⟨r65, hc, h⟩ := bS h
        refine r_I (k1 := cl + 2) (k2 := sl + 258) C hK hX hb hP hS hl.1 (kX5_init hc) rfl wd_119 mo_X5_init wd_120 ⟨Nat.le_of_ble_eq_true rfl, Nat.le_of_ble_eq_true rfl⟩ ⟨by (try simp only [rmX5_init]); omega, by (try simp only [rmX5_init]); omega⟩ ⟨show cl + 2 ≤ 112 by omega, show sl + 258 ≤ 14046 by omega⟩ rfl (rest := [.ref nx, .int v1, .ref b61]) rfl (Nat.le_of_ble_eq_true rfl) dX4_init_123 (fun H locs hP hS => ?_)
        refine r_sR C hK hP hS (ti := 4) (by decide) cl_5 rfl dX4_init_126 h (fun M66 H locs h hP hS => ?_)
        refine lv_aload_n C.1 C.2.1 dX4_init_127 rfl (lv_at hl 0 rfl) ?_
        refine r_gF C hK hP cl_4 (k := 7) (by decide) wd_151 rfl dX4_init_128 h (fun b67 h => ?_)
        refine lv_iload_n C.1 C.2.1 dX4_init_131 rfl (lv_at hl 1 rfl) ?_
        refine r_new (k1 := cl + 3) (k2 := sl + 260) C hK hb hP hS cl_5 tyX5 tyX5_ok (by intro k hk; rcases (by omega : k = 0 ∨ k = 1) with rfl | rfl <;> rfl) wd_116 wd_118 wd_78 ⟨by omega, by omega⟩ ⟨show cl + 3 ≤ 112 by omega, show sl + 260 ≤ 14046 by omega⟩ dX4_init_132 h (fun S68 M69 n70 H locs h hP hS => ?_)
        refine lv_dup C.1 C.2.1 dX4_init_135 rfl ?_
        refine lv_bipush (v := 8) C.1 C.2.1 dX4_init_136 (by decide) ?_
        obtain ⟨r71, hc, h⟩ := bS h
        refine r_I (k1 := cl + 4) (k2 := sl + 516) C hK hX hb hP hS hl.1 (kX5_init hc) rfl wd_119 mo_X5_init wd_120 ⟨Nat.le_of_ble_eq_true rfl, Nat.le_of_ble_eq_true rfl⟩ ⟨by (try simp only [rmX5_init]); omega, by (try simp only [rmX5_init]); omega⟩ ⟨show cl + 4 ≤ 112 by omega, show sl + 516 ≤ 14046 by omega⟩ rfl (rest := [.ref r65.2.2, .int v1, .ref b67]) rfl (Nat.le_of_ble_eq_true rfl) dX4_init_138 (fun H locs hP hS => ?_)
        refine r_sR C hK hP hS (ti := 4) (by decide) cl_5 rfl dX4_init_141 h (fun M72 H locs h hP hS => ?_)
        refine lv_aload_n C.1 C.2.1 dX4_init_142 rfl (lv_at hl 0 rfl) ?_
        refine lv_iload_n C.1 C.2.1 dX4_init_143 rfl (lv_at hl 1 rfl) ?_
        refine lv_iconst (v := (-1)) C.1 C.2.1 dX4_init_144 (by decide) ?_
        obtain ⟨hs, h⟩ := chk_some h
        obtain ⟨r73, hc, h⟩ := bS h
        refine r_V0 C hK hX hb hP hS hl.1 (kX4_begin hs hc) hs cl_4 wd_136 mo_X4_begin wd_137 wd_138 ⟨Nat.le_of_ble_eq_true rfl, Nat.le_of_ble_eq_true rfl⟩ ⟨show cl + 4 + 0 ≤ 112 by omega, show sl + 516 + 0 ≤ 14046 by omega⟩ rfl (rest := []) rfl (Nat.le_of_ble_eq_true rfl) dX4_init_145 (fun H locs hP hS => ?_)
        refine W.widen (k := cl + 4) (n := sl + 516) (Nat.le_refl _) (Nat.le_refl _) ?_
        refine lv_iinc (v := (v1 + 1)) (lv' := [(1, .int (v1 + 1)), (0, .ref a0)]) C.1 C.2.1 dX4_init_148 hl (k := 1) rfl rfl (by decide) rfl (fun ls hl => ?_)
        refine lv_goto (tgt := 106) C.1 C.2.1 dX4_init_151 (by decide) ?_
        have e := Option.some.inj h
        rw [← e] at hz1
        exact ih ((v1 + 1)) r71.1 r73 r71.2.2 _ _ _ _ _ (by omega) (by omega) hP hS (lv_sub hl [1, 0] rfl) (itK_inl hz1)
      · refine W.widen (k := 112) (n := 14046) (by omega) (by omega) ?_
        refine lv_aload_n C.1 C.2.1 dX4_init_154 rfl (lv_at hl 0 rfl) ?_
        refine lv_iconst (v := 0) C.1 C.2.1 dX4_init_155 (by decide) ?_
        refine lv_iconst (v := 0) C.1 C.2.1 dX4_init_156 (by decide) ?_
        obtain ⟨hs, h⟩ := chk_some h
        obtain ⟨r74, hc, h⟩ := bS h
        refine r_V0 C hK hX hb hP hS hl.1 (kX4_begin hs hc) hs cl_4 wd_136 mo_X4_begin wd_137 wd_138 ⟨Nat.le_of_ble_eq_true rfl, Nat.le_of_ble_eq_true rfl⟩ ⟨Nat.le_of_ble_eq_true rfl, Nat.le_of_ble_eq_true rfl⟩ rfl (rest := []) rfl (Nat.le_of_ble_eq_true rfl) dX4_init_157 (fun H locs hP hS => ?_)
        have e := Option.some.inj h
        rw [← e] at hz1
        replace e := itK_inr hz1
        refine W.widen (k := 112) (n := 14046) (Nat.le_of_ble_eq_true rfl) (Nat.le_of_ble_eq_true rfl) ?_
        exact q_N C hlk hP hS hr e dX4_init_160
  unfold fX4_init at h
  refine lv_aload_n C.1 C.2.1 dX4_init_0 rfl (lv_at hl 0 rfl) ?_
  refine W.objInit (rest := []) C.1 C.2.1 C.2.2.2.1 (C.2.2.2.2 _ wd_115) (C.2.2.2.2 _ wd_102) (C.2.2.2.2 _ w_objc) rfl (hl.1.trans C.2.2.1.symm) rfl dX4_init_1 (Nat.le_of_ble_eq_true rfl) (by show 2 * 0 + _ + 12 ≤ _; exact Nat.le_of_ble_eq_true rfl) ?_
  refine W.eq (g2 := F0 m 4 ls []) rfl ?_
  refine lv_aload_n C.1 C.2.1 dX4_init_4 rfl (lv_at hl 0 rfl) ?_
  refine lv_bipush (v := 24) C.1 C.2.1 dX4_init_5 (by decide) ?_
  refine r_newA (atype := .int) (k1 := 1) (k2 := 24) C hK hb hP hS wd_134 (by decide) rfl (by decide) ⟨Nat.le_of_ble_eq_true rfl, Nat.le_of_ble_eq_true rfl⟩ ⟨Nat.le_of_ble_eq_true rfl, Nat.le_of_ble_eq_true rfl⟩ dX4_init_7 h (fun S1 M2 n3 H locs h hP hS => ?_)
  refine r_pFin C hK hP hS hin cl_4 (k := 0) (by decide) wd_144 rfl rfl rfl (tyX4_ok 0 (by decide)) rfl rfl dX4_init_9 h (fun M4 H locs h hP hS => ?_)
  refine lv_aload_n C.1 C.2.1 dX4_init_12 rfl (lv_at hl 0 rfl) ?_
  refine lv_bipush (v := 24) C.1 C.2.1 dX4_init_13 (by decide) ?_
  refine r_newA (atype := .int) (k1 := 2) (k2 := 48) C hK hb hP hS wd_134 (by decide) rfl (by decide) ⟨Nat.le_of_ble_eq_true rfl, Nat.le_of_ble_eq_true rfl⟩ ⟨Nat.le_of_ble_eq_true rfl, Nat.le_of_ble_eq_true rfl⟩ dX4_init_15 h (fun S5 M6 n7 H locs h hP hS => ?_)
  refine r_pFin C hK hP hS hin cl_4 (k := 1) (by decide) wd_145 rfl rfl rfl (tyX4_ok 1 (by decide)) rfl rfl dX4_init_17 h (fun M8 H locs h hP hS => ?_)
  refine lv_aload_n C.1 C.2.1 dX4_init_20 rfl (lv_at hl 0 rfl) ?_
  refine lv_bipush (v := 24) C.1 C.2.1 dX4_init_21 (by decide) ?_
  refine r_newA (atype := .int) (k1 := 3) (k2 := 72) C hK hb hP hS wd_134 (by decide) rfl (by decide) ⟨Nat.le_of_ble_eq_true rfl, Nat.le_of_ble_eq_true rfl⟩ ⟨Nat.le_of_ble_eq_true rfl, Nat.le_of_ble_eq_true rfl⟩ dX4_init_23 h (fun S9 M10 n11 H locs h hP hS => ?_)
  refine r_pFin C hK hP hS hin cl_4 (k := 2) (by decide) wd_146 rfl rfl rfl (tyX4_ok 2 (by decide)) rfl rfl dX4_init_25 h (fun M12 H locs h hP hS => ?_)
  refine lv_aload_n C.1 C.2.1 dX4_init_28 rfl (lv_at hl 0 rfl) ?_
  refine lv_sipush (v := 576) C.1 C.2.1 dX4_init_29 (by decide) ?_
  refine r_newA (atype := .int) (k1 := 4) (k2 := 648) C hK hb hP hS wd_134 (by decide) rfl (by decide) ⟨Nat.le_of_ble_eq_true rfl, Nat.le_of_ble_eq_true rfl⟩ ⟨Nat.le_of_ble_eq_true rfl, Nat.le_of_ble_eq_true rfl⟩ dX4_init_32 h (fun S13 M14 n15 H locs h hP hS => ?_)
  refine r_pFin C hK hP hS hin cl_4 (k := 3) (by decide) wd_147 rfl rfl rfl (tyX4_ok 3 (by decide)) rfl rfl dX4_init_34 h (fun M16 H locs h hP hS => ?_)
  refine lv_aload_n C.1 C.2.1 dX4_init_37 rfl (lv_at hl 0 rfl) ?_
  refine lv_bipush (v := 24) C.1 C.2.1 dX4_init_38 (by decide) ?_
  refine r_newA (atype := .int) (k1 := 5) (k2 := 672) C hK hb hP hS wd_134 (by decide) rfl (by decide) ⟨Nat.le_of_ble_eq_true rfl, Nat.le_of_ble_eq_true rfl⟩ ⟨Nat.le_of_ble_eq_true rfl, Nat.le_of_ble_eq_true rfl⟩ dX4_init_40 h (fun S17 M18 n19 H locs h hP hS => ?_)
  refine r_pFin C hK hP hS hin cl_4 (k := 4) (by decide) wd_148 rfl rfl rfl (tyX4_ok 4 (by decide)) rfl rfl dX4_init_42 h (fun M20 H locs h hP hS => ?_)
  refine lv_aload_n C.1 C.2.1 dX4_init_45 rfl (lv_at hl 0 rfl) ?_
  refine lv_bipush (v := 120) C.1 C.2.1 dX4_init_46 (by decide) ?_
  refine r_newA (atype := .int) (k1 := 6) (k2 := 792) C hK hb hP hS wd_134 (by decide) rfl (by decide) ⟨Nat.le_of_ble_eq_true rfl, Nat.le_of_ble_eq_true rfl⟩ ⟨Nat.le_of_ble_eq_true rfl, Nat.le_of_ble_eq_true rfl⟩ dX4_init_48 h (fun S21 M22 n23 H locs h hP hS => ?_)
  refine r_pFin C hK hP hS hin cl_4 (k := 5) (by decide) wd_149 rfl rfl rfl (tyX4_ok 5 (by decide)) rfl rfl dX4_init_50 h (fun M24 H locs h hP hS => ?_)
  refine lv_aload_n C.1 C.2.1 dX4_init_53 rfl (lv_at hl 0 rfl) ?_
  refine lv_bipush (v := 24) C.1 C.2.1 dX4_init_54 (by decide) ?_
  refine r_newQ (Cn := "SpokenTree$Words") (k1 := 7) (k2 := 816) C hK hb hP hS (ti := 4) (by decide) rfl hX.2.2.2.2.2.2.2.2.1 wd_116 (by decide) ⟨Nat.le_of_ble_eq_true rfl, Nat.le_of_ble_eq_true rfl⟩ ⟨Nat.le_of_ble_eq_true rfl, Nat.le_of_ble_eq_true rfl⟩ dX4_init_56 h (fun S25 M26 n27 H locs h hP hS => ?_)
  refine r_pFin C hK hP hS hin cl_4 (k := 6) (by decide) wd_150 rfl rfl rfl (tyX4_ok 6 (by decide)) rfl rfl dX4_init_59 h (fun M28 H locs h hP hS => ?_)
  refine lv_aload_n C.1 C.2.1 dX4_init_62 rfl (lv_at hl 0 rfl) ?_
  refine lv_bipush (v := 24) C.1 C.2.1 dX4_init_63 (by decide) ?_
  refine r_newQ (Cn := "SpokenTree$Words") (k1 := 8) (k2 := 840) C hK hb hP hS (ti := 4) (by decide) rfl hX.2.2.2.2.2.2.2.2.1 wd_116 (by decide) ⟨Nat.le_of_ble_eq_true rfl, Nat.le_of_ble_eq_true rfl⟩ ⟨Nat.le_of_ble_eq_true rfl, Nat.le_of_ble_eq_true rfl⟩ dX4_init_65 h (fun S29 M30 n31 H locs h hP hS => ?_)
  refine r_pFin C hK hP hS hin cl_4 (k := 7) (by decide) wd_151 rfl rfl rfl (tyX4_ok 7 (by decide)) rfl rfl dX4_init_68 h (fun M32 H locs h hP hS => ?_)
  refine lv_aload_n C.1 C.2.1 dX4_init_71 rfl (lv_at hl 0 rfl) ?_
  refine lv_bipush (v := 24) C.1 C.2.1 dX4_init_72 (by decide) ?_
  refine r_newA (atype := .int) (k1 := 9) (k2 := 864) C hK hb hP hS wd_134 (by decide) rfl (by decide) ⟨Nat.le_of_ble_eq_true rfl, Nat.le_of_ble_eq_true rfl⟩ ⟨Nat.le_of_ble_eq_true rfl, Nat.le_of_ble_eq_true rfl⟩ dX4_init_74 h (fun S33 M34 n35 H locs h hP hS => ?_)
  refine r_pFin C hK hP hS hin cl_4 (k := 8) (by decide) wd_152 rfl rfl rfl (tyX4_ok 8 (by decide)) rfl rfl dX4_init_76 h (fun M36 H locs h hP hS => ?_)
  refine lv_aload_n C.1 C.2.1 dX4_init_79 rfl (lv_at hl 0 rfl) ?_
  refine lv_iconst (v := 0) C.1 C.2.1 dX4_init_80 (by decide) ?_
  refine r_pI C hK hP hS cl_4 (k := 9) (by decide) wd_153 rfl rfl (tyX4_ok 9 (by decide)) dX4_init_81 h (fun M37 H locs h hP hS => ?_)
  refine lv_aload_n C.1 C.2.1 dX4_init_84 rfl (lv_at hl 0 rfl) ?_
  refine lv_bipush (v := 24) C.1 C.2.1 dX4_init_85 (by decide) ?_
  refine r_newA (atype := .int) (k1 := 10) (k2 := 888) C hK hb hP hS wd_134 (by decide) rfl (by decide) ⟨Nat.le_of_ble_eq_true rfl, Nat.le_of_ble_eq_true rfl⟩ ⟨Nat.le_of_ble_eq_true rfl, Nat.le_of_ble_eq_true rfl⟩ dX4_init_87 h (fun S38 M39 n40 H locs h hP hS => ?_)
  refine r_pFin C hK hP hS hin cl_4 (k := 10) (by decide) wd_154 rfl rfl rfl (tyX4_ok 10 (by decide)) rfl rfl dX4_init_89 h (fun M41 H locs h hP hS => ?_)
  refine lv_aload_n C.1 C.2.1 dX4_init_92 rfl (lv_at hl 0 rfl) ?_
  refine r_new (k1 := 11) (k2 := 890) C hK hb hP hS cl_5 tyX5 tyX5_ok (by intro k hk; rcases (by omega : k = 0 ∨ k = 1) with rfl | rfl <;> rfl) wd_116 wd_118 wd_78 ⟨Nat.le_of_ble_eq_true rfl, Nat.le_of_ble_eq_true rfl⟩ ⟨Nat.le_of_ble_eq_true rfl, Nat.le_of_ble_eq_true rfl⟩ dX4_init_93 h (fun S42 M43 n44 H locs h hP hS => ?_)
  refine lv_dup C.1 C.2.1 dX4_init_96 rfl ?_
  refine lv_iconst (v := 0) C.1 C.2.1 dX4_init_97 (by decide) ?_
  obtain ⟨r45, hc, h⟩ := bS h
  refine r_I (k1 := 12) (k2 := 1146) C hK hX hb hP hS hl.1 (kX5_init hc) rfl wd_119 mo_X5_init wd_120 ⟨Nat.le_of_ble_eq_true rfl, Nat.le_of_ble_eq_true rfl⟩ ⟨Nat.le_of_ble_eq_true rfl, Nat.le_of_ble_eq_true rfl⟩ ⟨Nat.le_of_ble_eq_true rfl, Nat.le_of_ble_eq_true rfl⟩ rfl (rest := [.ref n40, .ref a0]) rfl (Nat.le_of_ble_eq_true rfl) dX4_init_98 (fun H locs hP hS => ?_)
  refine r_pFin C hK hP hS hin cl_4 (k := 11) (by decide) wd_155 rfl rfl rfl (tyX4_ok 11 (by decide)) rfl rfl dX4_init_101 h (fun M46 H locs h hP hS => ?_)
  refine lv_iconst (v := 0) C.1 C.2.1 dX4_init_104 (by decide) ?_
  refine lv_istore_n (lv' := [(1, .int 0), (0, .ref a0)]) C.1 C.2.1 dX4_init_105 rfl hl (by decide) rfl (fun ls hl => ?_)
  exact J 25 (0) r45.1 M46 r45.2.2 _ _ _ _ _ (Nat.le_of_ble_eq_true rfl) (Nat.le_of_ble_eq_true rfl) hP hS (lv_sub hl [1, 0] rfl) h
theorem dX1_init_0 : decode cX1_init 0 = .ok (.aload_n 0, 1) := by decide +kernel
theorem dX1_init_1 : decode cX1_init 1 = .ok (.invokespecial 3, 3) := by decide +kernel
theorem dX1_init_4 : decode cX1_init 4 = .ok (.aload_n 0, 1) := by decide +kernel
theorem dX1_init_5 : decode cX1_init 5 = .ok (.iconst 0, 1) := by decide +kernel
theorem dX1_init_6 : decode cX1_init 6 = .ok (.putfield 9, 3) := by decide +kernel
theorem dX1_init_9 : decode cX1_init 9 = .ok (.aload_n 0, 1) := by decide +kernel
theorem dX1_init_10 : decode cX1_init 10 = .ok (.bipush 10, 2) := by decide +kernel
theorem dX1_init_12 : decode cX1_init 12 = .ok (.newarray .int, 2) := by decide +kernel
theorem dX1_init_14 : decode cX1_init 14 = .ok (.putfield 15, 3) := by decide +kernel
theorem dX1_init_17 : decode cX1_init 17 = .ok (.aload_n 0, 1) := by decide +kernel
theorem dX1_init_18 : decode cX1_init 18 = .ok (.bipush 10, 2) := by decide +kernel
theorem dX1_init_20 : decode cX1_init 20 = .ok (.newarray .int, 2) := by decide +kernel
theorem dX1_init_22 : decode cX1_init 22 = .ok (.putfield 19, 3) := by decide +kernel
theorem dX1_init_25 : decode cX1_init 25 = .ok (.aload_n 0, 1) := by decide +kernel
theorem dX1_init_26 : decode cX1_init 26 = .ok (.bipush 10, 2) := by decide +kernel
theorem dX1_init_28 : decode cX1_init 28 = .ok (.newarray .int, 2) := by decide +kernel
theorem dX1_init_30 : decode cX1_init 30 = .ok (.putfield 22, 3) := by decide +kernel
theorem dX1_init_33 : decode cX1_init 33 = .ok (.aload_n 0, 1) := by decide +kernel
theorem dX1_init_34 : decode cX1_init 34 = .ok (.bipush 10, 2) := by decide +kernel
theorem dX1_init_36 : decode cX1_init 36 = .ok (.anewarray 25, 3) := by decide +kernel
theorem dX1_init_39 : decode cX1_init 39 = .ok (.putfield 27, 3) := by decide +kernel
theorem dX1_init_42 : decode cX1_init 42 = .ok (.iconst 0, 1) := by decide +kernel
theorem dX1_init_43 : decode cX1_init 43 = .ok (.istore_n 1, 1) := by decide +kernel
theorem dX1_init_44 : decode cX1_init 44 = .ok (.iload_n 1, 1) := by decide +kernel
theorem dX1_init_45 : decode cX1_init 45 = .ok (.bipush 10, 2) := by decide +kernel
theorem dX1_init_47 : decode cX1_init 47 = .ok (.if_icmp .ge 25, 3) := by decide +kernel
theorem dX1_init_50 : decode cX1_init 50 = .ok (.aload_n 0, 1) := by decide +kernel
theorem dX1_init_51 : decode cX1_init 51 = .ok (.getfield 27, 3) := by decide +kernel
theorem dX1_init_54 : decode cX1_init 54 = .ok (.iload_n 1, 1) := by decide +kernel
theorem dX1_init_55 : decode cX1_init 55 = .ok (.new 25, 3) := by decide +kernel
theorem dX1_init_58 : decode cX1_init 58 = .ok (.dup, 1) := by decide +kernel
theorem dX1_init_59 : decode cX1_init 59 = .ok (.sipush 256, 3) := by decide +kernel
theorem dX1_init_62 : decode cX1_init 62 = .ok (.invokespecial 31, 3) := by decide +kernel
theorem dX1_init_65 : decode cX1_init 65 = .ok (.aastore, 1) := by decide +kernel
theorem dX1_init_66 : decode cX1_init 66 = .ok (.iinc 1 1, 3) := by decide +kernel
theorem dX1_init_69 : decode cX1_init 69 = .ok (.goto (-25), 3) := by decide +kernel
theorem dX1_init_72 : decode cX1_init 72 = .ok (.return_, 1) := by decide +kernel
abbrev rmX1_init : Room := { frames := 3, cells := 26, slots := 2878, locals := 81 }
noncomputable def fX1_init_44b (n : Nat) (a0 : Nat) (v1 : Int32) (Sh : Sp) (M : Mm) (nx : Nat) : Option ((Int32 × Sp × Mm × Nat) ⊕ (Sp × Mm × Nat)) :=
  if v1 < 10 then
    gF Sh M a0 1 4 fun b24 =>
    nO Sh M nx 5 fun S25 M26 n27 =>
    (fX5_init n S25 M26 n27 nx 256).bind fun r28 =>
    sR r28.1 r28.2.1 b24 4 5 v1 nx fun M29 =>
    some (Sum.inl ((v1 + 1), r28.1, M29, r28.2.2))
  else
    some (Sum.inr (Sh, M, nx))
noncomputable def fX1_init (n : Nat) (Sh : Sp) (M : Mm) (nx : Nat) (a0 : Nat) : Option (Sp × Mm × Nat) :=
  pI Sh M a0 1 0 0 fun M1 =>
  nA Sh M1 nx 0 10 10 fun S2 M3 n4 =>
  pF S2 M3 a0 1 1 nx fun M5 =>
  nA S2 M5 n4 0 10 10 fun S6 M7 n8 =>
  pF S6 M7 a0 1 2 n4 fun M9 =>
  nA S6 M9 n8 0 10 10 fun S10 M11 n12 =>
  pF S10 M11 a0 1 3 n8 fun M13 =>
  nA S10 M13 n12 4 10 10 fun S14 M15 n16 =>
  pF S14 M15 a0 1 4 n12 fun M17 =>
  iter 11 (fun s => fX1_init_44b n a0 s.1 s.2.1 s.2.2.1 s.2.2.2) (0, S14, M17, n16)
set_option maxRecDepth 100000 in
set_option maxHeartbeats 4000000 in
theorem kX1_init {l : Launch} {G : Gt} {n : Nat} {Sh : Sp} {M : Mm} {nx : Nat} {a0 : Nat} {r : Sp × Mm × Nat} (h : fX1_init n Sh M nx a0 = some r) : CtN l yX1_init cX1_init 2 rmX1_init G Sh M nx [.ref a0] r := by
  refine CtN.of (by decide) rfl (Nat.le_of_ble_eq_true rfl) ?_
  intro p e s m args below meth c ls C hK hX hP hS hb hlk hr hin hl
  replace hl : lv_has ls 2 [(0, .ref a0)] := hl
  have J : ∀ (k : Nat) (v1 : Int32) (Sh : Sp) (M : Mm) (nx cl sl : Nat) (H : Heap) (locs : List Loc) (ls : Array Slot), cl + 2 * k ≤ 26 → sl + 258 * k ≤ 2878 → HM G Sh M H → SS G s nx H locs → lv_has ls 2 [(0, .ref a0), (1, .int v1)] → iter k (fun s => fX1_init_44b n a0 s.1 s.2.1 s.2.2.1 s.2.2.2) (v1, Sh, M, nx) = some r → W p l e rmX1_init s m args below meth c H locs cl sl (MQ below (QN G r) args s rmX1_init.cells rmX1_init.slots (AA G)) (F0 m 44 ls []) := by
    intro k
    induction k with
    | zero => intro v1 Sh M nx cl sl H locs ls hc1 hc2 hP hS hl h; exact (iter_0 h).elim
    | succ k ih =>
      intro v1 Sh M nx cl sl H locs ls hc1 hc2 hP hS hl h
      obtain ⟨z1, h, hz1⟩ := iter_some h
      replace h : fX1_init_44b n a0 v1 Sh M nx = some z1 := h
      unfold fX1_init_44b at h
      refine lv_iload_n C.1 C.2.1 dX1_init_44 rfl (lv_at hl 1 rfl) ?_
      refine lv_bipush (v := 10) C.1 C.2.1 dX1_init_45 (by decide) ?_
      refine b_ige (tgt := 72) C dX1_init_47 (by decide) h (fun h => ?_) (fun h => ?_)
      · refine lv_aload_n C.1 C.2.1 dX1_init_50 rfl (lv_at hl 0 rfl) ?_
        refine r_gF C hK hP cl_1 (k := 4) (by decide) wd_194 rfl dX1_init_51 h (fun b24 h => ?_)
        refine lv_iload_n C.1 C.2.1 dX1_init_54 rfl (lv_at hl 1 rfl) ?_
        refine r_new (k1 := cl + 1) (k2 := sl + 2) C hK hb hP hS cl_5 tyX5 tyX5_ok (by intro k hk; rcases (by omega : k = 0 ∨ k = 1) with rfl | rfl <;> rfl) wd_187 wd_118 wd_78 ⟨by omega, by omega⟩ ⟨show cl + 1 ≤ 26 by omega, show sl + 2 ≤ 2878 by omega⟩ dX1_init_55 h (fun S25 M26 n27 H locs h hP hS => ?_)
        refine lv_dup C.1 C.2.1 dX1_init_58 rfl ?_
        refine lv_sipush (v := 256) C.1 C.2.1 dX1_init_59 (by decide) ?_
        obtain ⟨r28, hc, h⟩ := bS h
        refine r_I (k1 := cl + 2) (k2 := sl + 258) C hK hX hb hP hS hl.1 (kX5_init hc) rfl wd_188 mo_X5_init wd_120 ⟨Nat.le_of_ble_eq_true rfl, Nat.le_of_ble_eq_true rfl⟩ ⟨by (try simp only [rmX5_init]); omega, by (try simp only [rmX5_init]); omega⟩ ⟨show cl + 2 ≤ 26 by omega, show sl + 258 ≤ 2878 by omega⟩ rfl (rest := [.ref nx, .int v1, .ref b24]) rfl (Nat.le_of_ble_eq_true rfl) dX1_init_62 (fun H locs hP hS => ?_)
        refine r_sR C hK hP hS (ti := 4) (by decide) cl_5 rfl dX1_init_65 h (fun M29 H locs h hP hS => ?_)
        refine lv_iinc (v := (v1 + 1)) (lv' := [(1, .int (v1 + 1)), (0, .ref a0)]) C.1 C.2.1 dX1_init_66 hl (k := 1) rfl rfl (by decide) rfl (fun ls hl => ?_)
        refine lv_goto (tgt := 44) C.1 C.2.1 dX1_init_69 (by decide) ?_
        have e := Option.some.inj h
        rw [← e] at hz1
        exact ih ((v1 + 1)) r28.1 M29 r28.2.2 _ _ _ _ _ (by omega) (by omega) hP hS (lv_sub hl [1, 0] rfl) (itK_inl hz1)
      · refine W.widen (k := 26) (n := 2878) (by omega) (by omega) ?_
        have e := Option.some.inj h
        rw [← e] at hz1
        replace e := itK_inr hz1
        refine W.widen (k := 26) (n := 2878) (Nat.le_of_ble_eq_true rfl) (Nat.le_of_ble_eq_true rfl) ?_
        exact q_N C hlk hP hS hr e dX1_init_72
  unfold fX1_init at h
  refine lv_aload_n C.1 C.2.1 dX1_init_0 rfl (lv_at hl 0 rfl) ?_
  refine W.objInit (rest := []) C.1 C.2.1 C.2.2.2.1 (C.2.2.2.2 _ wd_186) (C.2.2.2.2 _ wd_102) (C.2.2.2.2 _ w_objc) rfl (hl.1.trans C.2.2.1.symm) rfl dX1_init_1 (Nat.le_of_ble_eq_true rfl) (by show 2 * 0 + _ + 12 ≤ _; exact Nat.le_of_ble_eq_true rfl) ?_
  refine W.eq (g2 := F0 m 4 ls []) rfl ?_
  refine lv_aload_n C.1 C.2.1 dX1_init_4 rfl (lv_at hl 0 rfl) ?_
  refine lv_iconst (v := 0) C.1 C.2.1 dX1_init_5 (by decide) ?_
  refine r_pI C hK hP hS cl_1 (k := 0) (by decide) wd_189 rfl rfl (tyX1_ok 0 (by decide)) dX1_init_6 h (fun M1 H locs h hP hS => ?_)
  refine lv_aload_n C.1 C.2.1 dX1_init_9 rfl (lv_at hl 0 rfl) ?_
  refine lv_bipush (v := 10) C.1 C.2.1 dX1_init_10 (by decide) ?_
  refine r_newA (atype := .int) (k1 := 1) (k2 := 10) C hK hb hP hS wd_134 (by decide) rfl (by decide) ⟨Nat.le_of_ble_eq_true rfl, Nat.le_of_ble_eq_true rfl⟩ ⟨Nat.le_of_ble_eq_true rfl, Nat.le_of_ble_eq_true rfl⟩ dX1_init_12 h (fun S2 M3 n4 H locs h hP hS => ?_)
  refine r_pFin C hK hP hS hin cl_1 (k := 1) (by decide) wd_191 rfl rfl rfl (tyX1_ok 1 (by decide)) rfl rfl dX1_init_14 h (fun M5 H locs h hP hS => ?_)
  refine lv_aload_n C.1 C.2.1 dX1_init_17 rfl (lv_at hl 0 rfl) ?_
  refine lv_bipush (v := 10) C.1 C.2.1 dX1_init_18 (by decide) ?_
  refine r_newA (atype := .int) (k1 := 2) (k2 := 20) C hK hb hP hS wd_134 (by decide) rfl (by decide) ⟨Nat.le_of_ble_eq_true rfl, Nat.le_of_ble_eq_true rfl⟩ ⟨Nat.le_of_ble_eq_true rfl, Nat.le_of_ble_eq_true rfl⟩ dX1_init_20 h (fun S6 M7 n8 H locs h hP hS => ?_)
  refine r_pFin C hK hP hS hin cl_1 (k := 2) (by decide) wd_192 rfl rfl rfl (tyX1_ok 2 (by decide)) rfl rfl dX1_init_22 h (fun M9 H locs h hP hS => ?_)
  refine lv_aload_n C.1 C.2.1 dX1_init_25 rfl (lv_at hl 0 rfl) ?_
  refine lv_bipush (v := 10) C.1 C.2.1 dX1_init_26 (by decide) ?_
  refine r_newA (atype := .int) (k1 := 3) (k2 := 30) C hK hb hP hS wd_134 (by decide) rfl (by decide) ⟨Nat.le_of_ble_eq_true rfl, Nat.le_of_ble_eq_true rfl⟩ ⟨Nat.le_of_ble_eq_true rfl, Nat.le_of_ble_eq_true rfl⟩ dX1_init_28 h (fun S10 M11 n12 H locs h hP hS => ?_)
  refine r_pFin C hK hP hS hin cl_1 (k := 3) (by decide) wd_193 rfl rfl rfl (tyX1_ok 3 (by decide)) rfl rfl dX1_init_30 h (fun M13 H locs h hP hS => ?_)
  refine lv_aload_n C.1 C.2.1 dX1_init_33 rfl (lv_at hl 0 rfl) ?_
  refine lv_bipush (v := 10) C.1 C.2.1 dX1_init_34 (by decide) ?_
  refine r_newQ (Cn := "SpokenTree$Words") (k1 := 4) (k2 := 40) C hK hb hP hS (ti := 4) (by decide) rfl hX.2.2.2.2.2.2.2.2.1 wd_187 (by decide) ⟨Nat.le_of_ble_eq_true rfl, Nat.le_of_ble_eq_true rfl⟩ ⟨Nat.le_of_ble_eq_true rfl, Nat.le_of_ble_eq_true rfl⟩ dX1_init_36 h (fun S14 M15 n16 H locs h hP hS => ?_)
  refine r_pFin C hK hP hS hin cl_1 (k := 4) (by decide) wd_194 rfl rfl rfl (tyX1_ok 4 (by decide)) rfl rfl dX1_init_39 h (fun M17 H locs h hP hS => ?_)
  refine lv_iconst (v := 0) C.1 C.2.1 dX1_init_42 (by decide) ?_
  refine lv_istore_n (lv' := [(1, .int 0), (0, .ref a0)]) C.1 C.2.1 dX1_init_43 rfl hl (by decide) rfl (fun ls hl => ?_)
  exact J 11 (0) S14 M17 n16 _ _ _ _ _ (Nat.le_of_ble_eq_true rfl) (Nat.le_of_ble_eq_true rfl) hP hS (lv_sub hl [1, 0] rfl) h
theorem dX3_init_0 : decode cX3_init 0 = .ok (.aload_n 0, 1) := by decide +kernel
theorem dX3_init_1 : decode cX3_init 1 = .ok (.invokespecial 3, 3) := by decide +kernel
theorem dX3_init_4 : decode cX3_init 4 = .ok (.aload_n 0, 1) := by decide +kernel
theorem dX3_init_5 : decode cX3_init 5 = .ok (.new 9, 3) := by decide +kernel
theorem dX3_init_8 : decode cX3_init 8 = .ok (.dup, 1) := by decide +kernel
theorem dX3_init_9 : decode cX3_init 9 = .ok (.invokespecial 11, 3) := by decide +kernel
theorem dX3_init_12 : decode cX3_init 12 = .ok (.putfield 12, 3) := by decide +kernel
theorem dX3_init_15 : decode cX3_init 15 = .ok (.aload_n 0, 1) := by decide +kernel
theorem dX3_init_16 : decode cX3_init 16 = .ok (.new 18, 3) := by decide +kernel
theorem dX3_init_19 : decode cX3_init 19 = .ok (.dup, 1) := by decide +kernel
theorem dX3_init_20 : decode cX3_init 20 = .ok (.invokespecial 20, 3) := by decide +kernel
theorem dX3_init_23 : decode cX3_init 23 = .ok (.putfield 21, 3) := by decide +kernel
theorem dX3_init_26 : decode cX3_init 26 = .ok (.aload_n 0, 1) := by decide +kernel
theorem dX3_init_27 : decode cX3_init 27 = .ok (.new 25, 3) := by decide +kernel
theorem dX3_init_30 : decode cX3_init 30 = .ok (.dup, 1) := by decide +kernel
theorem dX3_init_31 : decode cX3_init 31 = .ok (.sipush 256, 3) := by decide +kernel
theorem dX3_init_34 : decode cX3_init 34 = .ok (.invokespecial 27, 3) := by decide +kernel
theorem dX3_init_37 : decode cX3_init 37 = .ok (.putfield 30, 3) := by decide +kernel
theorem dX3_init_40 : decode cX3_init 40 = .ok (.aload_n 0, 1) := by decide +kernel
theorem dX3_init_41 : decode cX3_init 41 = .ok (.iconst (-1), 1) := by decide +kernel
theorem dX3_init_42 : decode cX3_init 42 = .ok (.putfield 34, 3) := by decide +kernel
theorem dX3_init_45 : decode cX3_init 45 = .ok (.aload_n 0, 1) := by decide +kernel
theorem dX3_init_46 : decode cX3_init 46 = .ok (.iconst (-1), 1) := by decide +kernel
theorem dX3_init_47 : decode cX3_init 47 = .ok (.putfield 38, 3) := by decide +kernel
theorem dX3_init_50 : decode cX3_init 50 = .ok (.return_, 1) := by decide +kernel
abbrev rmX3_init : Room := { frames := 4, cells := 142, slots := 17199, locals := 104 }
noncomputable def fX3_init (n : Nat) (Sh : Sp) (M : Mm) (nx : Nat) (a0 : Nat) : Option (Sp × Mm × Nat) :=
  nO Sh M nx 4 fun S1 M2 n3 =>
  (fX4_init n S1 M2 n3 nx).bind fun r4 =>
  pF r4.1 r4.2.1 a0 3 0 nx fun M5 =>
  nO r4.1 M5 r4.2.2 1 fun S6 M7 n8 =>
  (fX1_init n S6 M7 n8 r4.2.2).bind fun r9 =>
  pF r9.1 r9.2.1 a0 3 1 r4.2.2 fun M10 =>
  nO r9.1 M10 r9.2.2 5 fun S11 M12 n13 =>
  (fX5_init n S11 M12 n13 r9.2.2 256).bind fun r14 =>
  pF r14.1 r14.2.1 a0 3 2 r9.2.2 fun M15 =>
  pI r14.1 M15 a0 3 3 (-1) fun M16 =>
  pI r14.1 M16 a0 3 4 (-1) fun M17 =>
  some (r14.1, M17, r14.2.2)
set_option maxRecDepth 100000 in
set_option maxHeartbeats 4000000 in
theorem kX3_init {l : Launch} {G : Gt} {n : Nat} {Sh : Sp} {M : Mm} {nx : Nat} {a0 : Nat} {r : Sp × Mm × Nat} (h : fX3_init n Sh M nx a0 = some r) : CtN l yX3_init cX3_init 1 rmX3_init G Sh M nx [.ref a0] r := by
  refine CtN.of (by decide) rfl (Nat.le_of_ble_eq_true rfl) ?_
  intro p e s m args below meth c ls C hK hX hP hS hb hlk hr hin hl
  replace hl : lv_has ls 1 [(0, .ref a0)] := hl
  unfold fX3_init at h
  refine lv_aload_n C.1 C.2.1 dX3_init_0 rfl (lv_at hl 0 rfl) ?_
  refine W.objInit (rest := []) C.1 C.2.1 C.2.2.2.1 (C.2.2.2.2 _ wd_109) (C.2.2.2.2 _ wd_102) (C.2.2.2.2 _ w_objc) rfl (hl.1.trans C.2.2.1.symm) rfl dX3_init_1 (Nat.le_of_ble_eq_true rfl) (by show 2 * 0 + _ + 12 ≤ _; exact Nat.le_of_ble_eq_true rfl) ?_
  refine W.eq (g2 := F0 m 4 ls []) rfl ?_
  refine lv_aload_n C.1 C.2.1 dX3_init_4 rfl (lv_at hl 0 rfl) ?_
  refine r_new (k1 := 1) (k2 := 12) C hK hb hP hS cl_4 tyX4 tyX4_ok (by intro k hk; rcases (by omega : k = 0 ∨ k = 1 ∨ k = 2 ∨ k = 3 ∨ k = 4 ∨ k = 5 ∨ k = 6 ∨ k = 7 ∨ k = 8 ∨ k = 9 ∨ k = 10 ∨ k = 11) with rfl | rfl | rfl | rfl | rfl | rfl | rfl | rfl | rfl | rfl | rfl | rfl <;> rfl) wd_110 wd_111 wd_77 ⟨Nat.le_of_ble_eq_true rfl, Nat.le_of_ble_eq_true rfl⟩ ⟨Nat.le_of_ble_eq_true rfl, Nat.le_of_ble_eq_true rfl⟩ dX3_init_5 h (fun S1 M2 n3 H locs h hP hS => ?_)
  refine lv_dup C.1 C.2.1 dX3_init_8 rfl ?_
  obtain ⟨r4, hc, h⟩ := bS h
  refine r_I (k1 := 113) (k2 := 14058) C hK hX hb hP hS hl.1 (kX4_init hc) rfl wd_112 mo_X4_init wd_113 ⟨Nat.le_of_ble_eq_true rfl, Nat.le_of_ble_eq_true rfl⟩ ⟨Nat.le_of_ble_eq_true rfl, Nat.le_of_ble_eq_true rfl⟩ ⟨Nat.le_of_ble_eq_true rfl, Nat.le_of_ble_eq_true rfl⟩ rfl (rest := [.ref nx, .ref a0]) rfl (Nat.le_of_ble_eq_true rfl) dX3_init_9 (fun H locs hP hS => ?_)
  refine r_pFin C hK hP hS hin cl_3 (k := 0) (by decide) wd_208 rfl rfl rfl (tyX3_ok 0 (by decide)) rfl rfl dX3_init_12 h (fun M5 H locs h hP hS => ?_)
  refine lv_aload_n C.1 C.2.1 dX3_init_15 rfl (lv_at hl 0 rfl) ?_
  refine r_new (k1 := 114) (k2 := 14063) C hK hb hP hS cl_1 tyX1 tyX1_ok (by intro k hk; rcases (by omega : k = 0 ∨ k = 1 ∨ k = 2 ∨ k = 3 ∨ k = 4) with rfl | rfl | rfl | rfl | rfl <;> rfl) wd_181 wd_182 wd_79 ⟨Nat.le_of_ble_eq_true rfl, Nat.le_of_ble_eq_true rfl⟩ ⟨Nat.le_of_ble_eq_true rfl, Nat.le_of_ble_eq_true rfl⟩ dX3_init_16 h (fun S6 M7 n8 H locs h hP hS => ?_)
  refine lv_dup C.1 C.2.1 dX3_init_19 rfl ?_
  obtain ⟨r9, hc, h⟩ := bS h
  refine r_I (k1 := 140) (k2 := 16941) C hK hX hb hP hS hl.1 (kX1_init hc) rfl wd_183 mo_X1_init wd_184 ⟨Nat.le_of_ble_eq_true rfl, Nat.le_of_ble_eq_true rfl⟩ ⟨Nat.le_of_ble_eq_true rfl, Nat.le_of_ble_eq_true rfl⟩ ⟨Nat.le_of_ble_eq_true rfl, Nat.le_of_ble_eq_true rfl⟩ rfl (rest := [.ref r4.2.2, .ref a0]) rfl (Nat.le_of_ble_eq_true rfl) dX3_init_20 (fun H locs hP hS => ?_)
  refine r_pFin C hK hP hS hin cl_3 (k := 1) (by decide) wd_211 rfl rfl rfl (tyX3_ok 1 (by decide)) rfl rfl dX3_init_23 h (fun M10 H locs h hP hS => ?_)
  refine lv_aload_n C.1 C.2.1 dX3_init_26 rfl (lv_at hl 0 rfl) ?_
  refine r_new (k1 := 141) (k2 := 16943) C hK hb hP hS cl_5 tyX5 tyX5_ok (by intro k hk; rcases (by omega : k = 0 ∨ k = 1) with rfl | rfl <;> rfl) wd_206 wd_118 wd_78 ⟨Nat.le_of_ble_eq_true rfl, Nat.le_of_ble_eq_true rfl⟩ ⟨Nat.le_of_ble_eq_true rfl, Nat.le_of_ble_eq_true rfl⟩ dX3_init_27 h (fun S11 M12 n13 H locs h hP hS => ?_)
  refine lv_dup C.1 C.2.1 dX3_init_30 rfl ?_
  refine lv_sipush (v := 256) C.1 C.2.1 dX3_init_31 (by decide) ?_
  obtain ⟨r14, hc, h⟩ := bS h
  refine r_I (k1 := 142) (k2 := 17199) C hK hX hb hP hS hl.1 (kX5_init hc) rfl wd_207 mo_X5_init wd_120 ⟨Nat.le_of_ble_eq_true rfl, Nat.le_of_ble_eq_true rfl⟩ ⟨Nat.le_of_ble_eq_true rfl, Nat.le_of_ble_eq_true rfl⟩ ⟨Nat.le_of_ble_eq_true rfl, Nat.le_of_ble_eq_true rfl⟩ rfl (rest := [.ref r9.2.2, .ref a0]) rfl (Nat.le_of_ble_eq_true rfl) dX3_init_34 (fun H locs hP hS => ?_)
  refine r_pFin C hK hP hS hin cl_3 (k := 2) (by decide) wd_213 rfl rfl rfl (tyX3_ok 2 (by decide)) rfl rfl dX3_init_37 h (fun M15 H locs h hP hS => ?_)
  refine lv_aload_n C.1 C.2.1 dX3_init_40 rfl (lv_at hl 0 rfl) ?_
  refine lv_iconst (v := (-1)) C.1 C.2.1 dX3_init_41 (by decide) ?_
  refine r_pI C hK hP hS cl_3 (k := 3) (by decide) wd_215 rfl rfl (tyX3_ok 3 (by decide)) dX3_init_42 h (fun M16 H locs h hP hS => ?_)
  refine lv_aload_n C.1 C.2.1 dX3_init_45 rfl (lv_at hl 0 rfl) ?_
  refine lv_iconst (v := (-1)) C.1 C.2.1 dX3_init_46 (by decide) ?_
  refine r_pI C hK hP hS cl_3 (k := 4) (by decide) wd_218 rfl rfl (tyX3_ok 4 (by decide)) dX3_init_47 h (fun M17 H locs h hP hS => ?_)
  have e := Option.some.inj h
  refine W.widen (k := 142) (n := 17199) (Nat.le_of_ble_eq_true rfl) (Nat.le_of_ble_eq_true rfl) ?_
  exact q_N C hlk hP hS hr e dX3_init_50
theorem dX2_init_0 : decode cX2_init 0 = .ok (.aload_n 0, 1) := by decide +kernel
theorem dX2_init_1 : decode cX2_init 1 = .ok (.invokespecial 3, 3) := by decide +kernel
theorem dX2_init_4 : decode cX2_init 4 = .ok (.aload_n 0, 1) := by decide +kernel
theorem dX2_init_5 : decode cX2_init 5 = .ok (.bipush 24, 2) := by decide +kernel
theorem dX2_init_7 : decode cX2_init 7 = .ok (.newarray .int, 2) := by decide +kernel
theorem dX2_init_9 : decode cX2_init 9 = .ok (.putfield 9, 3) := by decide +kernel
theorem dX2_init_12 : decode cX2_init 12 = .ok (.aload_n 0, 1) := by decide +kernel
theorem dX2_init_13 : decode cX2_init 13 = .ok (.bipush 24, 2) := by decide +kernel
theorem dX2_init_15 : decode cX2_init 15 = .ok (.newarray .int, 2) := by decide +kernel
theorem dX2_init_17 : decode cX2_init 17 = .ok (.putfield 15, 3) := by decide +kernel
theorem dX2_init_20 : decode cX2_init 20 = .ok (.aload_n 0, 1) := by decide +kernel
theorem dX2_init_21 : decode cX2_init 21 = .ok (.iconst 0, 1) := by decide +kernel
theorem dX2_init_22 : decode cX2_init 22 = .ok (.putfield 18, 3) := by decide +kernel
theorem dX2_init_25 : decode cX2_init 25 = .ok (.aload_n 0, 1) := by decide +kernel
theorem dX2_init_26 : decode cX2_init 26 = .ok (.aload_n 1, 1) := by decide +kernel
theorem dX2_init_27 : decode cX2_init 27 = .ok (.putfield 22, 3) := by decide +kernel
theorem dX2_init_30 : decode cX2_init 30 = .ok (.return_, 1) := by decide +kernel
abbrev rmX2_init : Room := { frames := 2, cells := 2, slots := 48, locals := 60 }
noncomputable def fX2_init (n : Nat) (Sh : Sp) (M : Mm) (nx : Nat) (a0 : Nat) (a1 : Nat) : Option (Sp × Mm × Nat) :=
  nA Sh M nx 0 24 24 fun S1 M2 n3 =>
  pF S1 M2 a0 2 1 nx fun M4 =>
  nA S1 M4 n3 0 24 24 fun S5 M6 n7 =>
  pF S5 M6 a0 2 2 n3 fun M8 =>
  pI S5 M8 a0 2 3 0 fun M9 =>
  pF S5 M9 a0 2 0 a1 fun M10 =>
  some (S5, M10, n7)
set_option maxRecDepth 100000 in
set_option maxHeartbeats 4000000 in
theorem kX2_init {l : Launch} {G : Gt} {n : Nat} {Sh : Sp} {M : Mm} {nx : Nat} {a0 : Nat} {a1 : Nat} {r : Sp × Mm × Nat} (h : fX2_init n Sh M nx a0 a1 = some r) : CtN l yX2_init cX2_init 2 rmX2_init G Sh M nx [.ref a0, .ref a1] r := by
  refine CtN.of (by decide) rfl (Nat.le_of_ble_eq_true rfl) ?_
  intro p e s m args below meth c ls C hK hX hP hS hb hlk hr hin hl
  replace hl : lv_has ls 2 [(0, .ref a0), (1, .ref a1)] := hl
  unfold fX2_init at h
  refine lv_aload_n C.1 C.2.1 dX2_init_0 rfl (lv_at hl 0 rfl) ?_
  refine W.objInit (rest := []) C.1 C.2.1 C.2.2.2.1 (C.2.2.2.2 _ wd_236) (C.2.2.2.2 _ wd_102) (C.2.2.2.2 _ w_objc) rfl (hl.1.trans C.2.2.1.symm) rfl dX2_init_1 (Nat.le_of_ble_eq_true rfl) (by show 2 * 0 + _ + 12 ≤ _; exact Nat.le_of_ble_eq_true rfl) ?_
  refine W.eq (g2 := F0 m 4 ls []) rfl ?_
  refine lv_aload_n C.1 C.2.1 dX2_init_4 rfl (lv_at hl 0 rfl) ?_
  refine lv_bipush (v := 24) C.1 C.2.1 dX2_init_5 (by decide) ?_
  refine r_newA (atype := .int) (k1 := 1) (k2 := 24) C hK hb hP hS wd_134 (by decide) rfl (by decide) ⟨Nat.le_of_ble_eq_true rfl, Nat.le_of_ble_eq_true rfl⟩ ⟨Nat.le_of_ble_eq_true rfl, Nat.le_of_ble_eq_true rfl⟩ dX2_init_7 h (fun S1 M2 n3 H locs h hP hS => ?_)
  refine r_pFin C hK hP hS hin cl_2 (k := 1) (by decide) wd_238 rfl rfl rfl (tyX2_ok 1 (by decide)) rfl rfl dX2_init_9 h (fun M4 H locs h hP hS => ?_)
  refine lv_aload_n C.1 C.2.1 dX2_init_12 rfl (lv_at hl 0 rfl) ?_
  refine lv_bipush (v := 24) C.1 C.2.1 dX2_init_13 (by decide) ?_
  refine r_newA (atype := .int) (k1 := 2) (k2 := 48) C hK hb hP hS wd_134 (by decide) rfl (by decide) ⟨Nat.le_of_ble_eq_true rfl, Nat.le_of_ble_eq_true rfl⟩ ⟨Nat.le_of_ble_eq_true rfl, Nat.le_of_ble_eq_true rfl⟩ dX2_init_15 h (fun S5 M6 n7 H locs h hP hS => ?_)
  refine r_pFin C hK hP hS hin cl_2 (k := 2) (by decide) wd_239 rfl rfl rfl (tyX2_ok 2 (by decide)) rfl rfl dX2_init_17 h (fun M8 H locs h hP hS => ?_)
  refine lv_aload_n C.1 C.2.1 dX2_init_20 rfl (lv_at hl 0 rfl) ?_
  refine lv_iconst (v := 0) C.1 C.2.1 dX2_init_21 (by decide) ?_
  refine r_pI C hK hP hS cl_2 (k := 3) (by decide) wd_240 rfl rfl (tyX2_ok 3 (by decide)) dX2_init_22 h (fun M9 H locs h hP hS => ?_)
  refine lv_aload_n C.1 C.2.1 dX2_init_25 rfl (lv_at hl 0 rfl) ?_
  refine lv_aload_n C.1 C.2.1 dX2_init_26 rfl (lv_at hl 1 rfl) ?_
  refine r_pFin C hK hP hS hin cl_2 (k := 0) (by decide) wd_237 rfl rfl rfl (tyX2_ok 0 (by decide)) rfl rfl dX2_init_27 h (fun M10 H locs h hP hS => ?_)
  have e := Option.some.inj h
  refine W.widen (k := 2) (n := 48) (Nat.le_of_ble_eq_true rfl) (Nat.le_of_ble_eq_true rfl) ?_
  exact q_N C hlk hP hS hr e dX2_init_30
theorem dX0_init_0 : decode cX0_init 0 = .ok (.aload_n 0, 1) := by decide +kernel
theorem dX0_init_1 : decode cX0_init 1 = .ok (.invokespecial 3, 3) := by decide +kernel
theorem dX0_init_4 : decode cX0_init 4 = .ok (.aload_n 0, 1) := by decide +kernel
theorem dX0_init_5 : decode cX0_init 5 = .ok (.aload_n 1, 1) := by decide +kernel
theorem dX0_init_6 : decode cX0_init 6 = .ok (.putfield 9, 3) := by decide +kernel
theorem dX0_init_9 : decode cX0_init 9 = .ok (.return_, 1) := by decide +kernel
abbrev rmX0_init : Room := { frames := 2, cells := 0, slots := 0, locals := 60 }
noncomputable def fX0_init (n : Nat) (Sh : Sp) (M : Mm) (nx : Nat) (a0 : Nat) (a1 : Nat) : Option (Sp × Mm × Nat) :=
  pF Sh M a0 0 0 a1 fun M1 =>
  some (Sh, M1, nx)
set_option maxRecDepth 100000 in
set_option maxHeartbeats 4000000 in
theorem kX0_init {l : Launch} {G : Gt} {n : Nat} {Sh : Sp} {M : Mm} {nx : Nat} {a0 : Nat} {a1 : Nat} {r : Sp × Mm × Nat} (h : fX0_init n Sh M nx a0 a1 = some r) : CtN l yX0_init cX0_init 2 rmX0_init G Sh M nx [.ref a0, .ref a1] r := by
  refine CtN.of (by decide) rfl (Nat.le_of_ble_eq_true rfl) ?_
  intro p e s m args below meth c ls C hK hX hP hS hb hlk hr hin hl
  replace hl : lv_has ls 2 [(0, .ref a0), (1, .ref a1)] := hl
  unfold fX0_init at h
  refine lv_aload_n C.1 C.2.1 dX0_init_0 rfl (lv_at hl 0 rfl) ?_
  refine W.objInit (rest := []) C.1 C.2.1 C.2.2.2.1 (C.2.2.2.2 _ wd_256) (C.2.2.2.2 _ wd_102) (C.2.2.2.2 _ w_objc) rfl (hl.1.trans C.2.2.1.symm) rfl dX0_init_1 (Nat.le_of_ble_eq_true rfl) (by show 2 * 0 + _ + 12 ≤ _; exact Nat.le_of_ble_eq_true rfl) ?_
  refine W.eq (g2 := F0 m 4 ls []) rfl ?_
  refine lv_aload_n C.1 C.2.1 dX0_init_4 rfl (lv_at hl 0 rfl) ?_
  refine lv_aload_n C.1 C.2.1 dX0_init_5 rfl (lv_at hl 1 rfl) ?_
  refine r_pFin C hK hP hS hin cl_0 (k := 0) (by decide) wd_257 rfl rfl rfl (tyX0_ok 0 (by decide)) rfl rfl dX0_init_6 h (fun M1 H locs h hP hS => ?_)
  have e := Option.some.inj h
  refine W.widen (k := 0) (n := 0) (Nat.le_of_ble_eq_true rfl) (Nat.le_of_ble_eq_true rfl) ?_
  exact q_N C hlk hP hS hr e dX0_init_9
theorem dX6_init_0 : decode cX6_init 0 = .ok (.aload_n 0, 1) := by decide +kernel
theorem dX6_init_1 : decode cX6_init 1 = .ok (.invokespecial 1, 3) := by decide +kernel
theorem dX6_init_4 : decode cX6_init 4 = .ok (.aload_n 0, 1) := by decide +kernel
theorem dX6_init_5 : decode cX6_init 5 = .ok (.new 7, 3) := by decide +kernel
theorem dX6_init_8 : decode cX6_init 8 = .ok (.dup, 1) := by decide +kernel
theorem dX6_init_9 : decode cX6_init 9 = .ok (.invokespecial 9, 3) := by decide +kernel
theorem dX6_init_12 : decode cX6_init 12 = .ok (.putfield 10, 3) := by decide +kernel
theorem dX6_init_15 : decode cX6_init 15 = .ok (.aload_n 0, 1) := by decide +kernel
theorem dX6_init_16 : decode cX6_init 16 = .ok (.new 16, 3) := by decide +kernel
theorem dX6_init_19 : decode cX6_init 19 = .ok (.dup, 1) := by decide +kernel
theorem dX6_init_20 : decode cX6_init 20 = .ok (.aload_n 0, 1) := by decide +kernel
theorem dX6_init_21 : decode cX6_init 21 = .ok (.getfield 10, 3) := by decide +kernel
theorem dX6_init_24 : decode cX6_init 24 = .ok (.invokespecial 18, 3) := by decide +kernel
theorem dX6_init_27 : decode cX6_init 27 = .ok (.putfield 21, 3) := by decide +kernel
theorem dX6_init_30 : decode cX6_init 30 = .ok (.aload_n 0, 1) := by decide +kernel
theorem dX6_init_31 : decode cX6_init 31 = .ok (.new 25, 3) := by decide +kernel
theorem dX6_init_34 : decode cX6_init 34 = .ok (.dup, 1) := by decide +kernel
theorem dX6_init_35 : decode cX6_init 35 = .ok (.aload_n 0, 1) := by decide +kernel
theorem dX6_init_36 : decode cX6_init 36 = .ok (.getfield 10, 3) := by decide +kernel
theorem dX6_init_39 : decode cX6_init 39 = .ok (.getfield 27, 3) := by decide +kernel
theorem dX6_init_42 : decode cX6_init 42 = .ok (.invokespecial 31, 3) := by decide +kernel
theorem dX6_init_45 : decode cX6_init 45 = .ok (.putfield 34, 3) := by decide +kernel
theorem dX6_init_48 : decode cX6_init 48 = .ok (.aload_n 0, 1) := by decide +kernel
theorem dX6_init_49 : decode cX6_init 49 = .ok (.iconst 5, 1) := by decide +kernel
theorem dX6_init_50 : decode cX6_init 50 = .ok (.anewarray 7, 3) := by decide +kernel
theorem dX6_init_53 : decode cX6_init 53 = .ok (.putfield 38, 3) := by decide +kernel
theorem dX6_init_56 : decode cX6_init 56 = .ok (.aload_n 0, 1) := by decide +kernel
theorem dX6_init_57 : decode cX6_init 57 = .ok (.iconst 0, 1) := by decide +kernel
theorem dX6_init_58 : decode cX6_init 58 = .ok (.putfield 42, 3) := by decide +kernel
theorem dX6_init_61 : decode cX6_init 61 = .ok (.aload_n 0, 1) := by decide +kernel
theorem dX6_init_62 : decode cX6_init 62 = .ok (.new 46, 3) := by decide +kernel
theorem dX6_init_65 : decode cX6_init 65 = .ok (.dup, 1) := by decide +kernel
theorem dX6_init_66 : decode cX6_init 66 = .ok (.bipush 8, 2) := by decide +kernel
theorem dX6_init_68 : decode cX6_init 68 = .ok (.invokespecial 48, 3) := by decide +kernel
theorem dX6_init_71 : decode cX6_init 71 = .ok (.putfield 51, 3) := by decide +kernel
theorem dX6_init_74 : decode cX6_init 74 = .ok (.aload_n 0, 1) := by decide +kernel
theorem dX6_init_75 : decode cX6_init 75 = .ok (.new 46, 3) := by decide +kernel
theorem dX6_init_78 : decode cX6_init 78 = .ok (.dup, 1) := by decide +kernel
theorem dX6_init_79 : decode cX6_init 79 = .ok (.sipush 256, 3) := by decide +kernel
theorem dX6_init_82 : decode cX6_init 82 = .ok (.invokespecial 48, 3) := by decide +kernel
theorem dX6_init_85 : decode cX6_init 85 = .ok (.putfield 55, 3) := by decide +kernel
theorem dX6_init_88 : decode cX6_init 88 = .ok (.aload_n 0, 1) := by decide +kernel
theorem dX6_init_89 : decode cX6_init 89 = .ok (.bipush 24, 2) := by decide +kernel
theorem dX6_init_91 : decode cX6_init 91 = .ok (.newarray .int, 2) := by decide +kernel
theorem dX6_init_93 : decode cX6_init 93 = .ok (.putfield 58, 3) := by decide +kernel
theorem dX6_init_96 : decode cX6_init 96 = .ok (.iconst 0, 1) := by decide +kernel
theorem dX6_init_97 : decode cX6_init 97 = .ok (.istore_n 1, 1) := by decide +kernel
theorem dX6_init_98 : decode cX6_init 98 = .ok (.iload_n 1, 1) := by decide +kernel
theorem dX6_init_99 : decode cX6_init 99 = .ok (.iconst 5, 1) := by decide +kernel
theorem dX6_init_100 : decode cX6_init 100 = .ok (.if_icmp .ge 22, 3) := by decide +kernel
theorem dX6_init_103 : decode cX6_init 103 = .ok (.aload_n 0, 1) := by decide +kernel
theorem dX6_init_104 : decode cX6_init 104 = .ok (.getfield 38, 3) := by decide +kernel
theorem dX6_init_107 : decode cX6_init 107 = .ok (.iload_n 1, 1) := by decide +kernel
theorem dX6_init_108 : decode cX6_init 108 = .ok (.new 7, 3) := by decide +kernel
theorem dX6_init_111 : decode cX6_init 111 = .ok (.dup, 1) := by decide +kernel
theorem dX6_init_112 : decode cX6_init 112 = .ok (.invokespecial 9, 3) := by decide +kernel
theorem dX6_init_115 : decode cX6_init 115 = .ok (.aastore, 1) := by decide +kernel
theorem dX6_init_116 : decode cX6_init 116 = .ok (.iinc 1 1, 3) := by decide +kernel
theorem dX6_init_119 : decode cX6_init 119 = .ok (.goto (-21), 3) := by decide +kernel
theorem dX6_init_122 : decode cX6_init 122 = .ok (.return_, 1) := by decide +kernel
abbrev rmX6_init : Room := { frames := 5, cells := 1011, slots := 121026, locals := 124 }
noncomputable def fX6_init_98b (n : Nat) (a0 : Nat) (v1 : Int32) (Sh : Sp) (M : Mm) (nx : Nat) : Option ((Int32 × Sp × Mm × Nat) ⊕ (Sp × Mm × Nat)) :=
  if v1 < 5 then
    gF Sh M a0 6 3 fun b44 =>
    nO Sh M nx 3 fun S45 M46 n47 =>
    (fX3_init n S45 M46 n47 nx).bind fun r48 =>
    sR r48.1 r48.2.1 b44 5 3 v1 nx fun M49 =>
    some (Sum.inl ((v1 + 1), r48.1, M49, r48.2.2))
  else
    some (Sum.inr (Sh, M, nx))
noncomputable def fX6_init (n : Nat) (Sh : Sp) (M : Mm) (nx : Nat) (a0 : Nat) : Option (Sp × Mm × Nat) :=
  nO Sh M nx 3 fun S1 M2 n3 =>
  (fX3_init n S1 M2 n3 nx).bind fun r4 =>
  pF r4.1 r4.2.1 a0 6 0 nx fun M5 =>
  nO r4.1 M5 r4.2.2 2 fun S6 M7 n8 =>
  gF S6 M7 a0 6 0 fun b9 =>
  (fX2_init n S6 M7 n8 r4.2.2 b9).bind fun r10 =>
  pF r10.1 r10.2.1 a0 6 1 r4.2.2 fun M11 =>
  nO r10.1 M11 r10.2.2 0 fun S12 M13 n14 =>
  gF S12 M13 a0 6 0 fun b15 =>
  gF S12 M13 b15 3 0 fun b16 =>
  (fX0_init n S12 M13 n14 r10.2.2 b16).bind fun r17 =>
  pF r17.1 r17.2.1 a0 6 2 r10.2.2 fun M18 =>
  nA r17.1 M18 r17.2.2 5 5 5 fun S19 M20 n21 =>
  pF S19 M20 a0 6 3 r17.2.2 fun M22 =>
  pI S19 M22 a0 6 4 0 fun M23 =>
  nO S19 M23 n21 5 fun S24 M25 n26 =>
  (fX5_init n S24 M25 n26 n21 8).bind fun r27 =>
  pF r27.1 r27.2.1 a0 6 5 n21 fun M28 =>
  nO r27.1 M28 r27.2.2 5 fun S29 M30 n31 =>
  (fX5_init n S29 M30 n31 r27.2.2 256).bind fun r32 =>
  pF r32.1 r32.2.1 a0 6 6 r27.2.2 fun M33 =>
  nA r32.1 M33 r32.2.2 0 24 24 fun S34 M35 n36 =>
  pF S34 M35 a0 6 7 r32.2.2 fun M37 =>
  iter 6 (fun s => fX6_init_98b n a0 s.1 s.2.1 s.2.2.1 s.2.2.2) (0, S34, M37, n36)
set_option maxRecDepth 100000 in
set_option maxHeartbeats 4000000 in
theorem kX6_init {l : Launch} {G : Gt} {n : Nat} {Sh : Sp} {M : Mm} {nx : Nat} {a0 : Nat} {r : Sp × Mm × Nat} (h : fX6_init n Sh M nx a0 = some r) : CtN l yX6_init cX6_init 2 rmX6_init G Sh M nx [.ref a0] r := by
  refine CtN.of (by decide) rfl (Nat.le_of_ble_eq_true rfl) ?_
  intro p e s m args below meth c ls C hK hX hP hS hb hlk hr hin hl
  replace hl : lv_has ls 2 [(0, .ref a0)] := hl
  have J : ∀ (k : Nat) (v1 : Int32) (Sh : Sp) (M : Mm) (nx cl sl : Nat) (H : Heap) (locs : List Loc) (ls : Array Slot), cl + 143 * k ≤ 1011 → sl + 17204 * k ≤ 121026 → HM G Sh M H → SS G s nx H locs → lv_has ls 2 [(0, .ref a0), (1, .int v1)] → iter k (fun s => fX6_init_98b n a0 s.1 s.2.1 s.2.2.1 s.2.2.2) (v1, Sh, M, nx) = some r → W p l e rmX6_init s m args below meth c H locs cl sl (MQ below (QN G r) args s rmX6_init.cells rmX6_init.slots (AA G)) (F0 m 98 ls []) := by
    intro k
    induction k with
    | zero => intro v1 Sh M nx cl sl H locs ls hc1 hc2 hP hS hl h; exact (iter_0 h).elim
    | succ k ih =>
      intro v1 Sh M nx cl sl H locs ls hc1 hc2 hP hS hl h
      obtain ⟨z1, h, hz1⟩ := iter_some h
      replace h : fX6_init_98b n a0 v1 Sh M nx = some z1 := h
      unfold fX6_init_98b at h
      refine lv_iload_n C.1 C.2.1 dX6_init_98 rfl (lv_at hl 1 rfl) ?_
      refine lv_iconst (v := 5) C.1 C.2.1 dX6_init_99 (by decide) ?_
      refine b_ige (tgt := 122) C dX6_init_100 (by decide) h (fun h => ?_) (fun h => ?_)
      · refine lv_aload_n C.1 C.2.1 dX6_init_103 rfl (lv_at hl 0 rfl) ?_
        refine r_gF C hK hP cl_6 (k := 3) (by decide) wd_267 rfl dX6_init_104 h (fun b44 h => ?_)
        refine lv_iload_n C.1 C.2.1 dX6_init_107 rfl (lv_at hl 1 rfl) ?_
        refine r_new (k1 := cl + 1) (k2 := sl + 5) C hK hb hP hS cl_3 tyX3 tyX3_ok (by intro k hk; rcases (by omega : k = 0 ∨ k = 1 ∨ k = 2 ∨ k = 3 ∨ k = 4) with rfl | rfl | rfl | rfl | rfl <;> rfl) wd_104 wd_105 wd_76 ⟨by omega, by omega⟩ ⟨show cl + 1 ≤ 1011 by omega, show sl + 5 ≤ 121026 by omega⟩ dX6_init_108 h (fun S45 M46 n47 H locs h hP hS => ?_)
        refine lv_dup C.1 C.2.1 dX6_init_111 rfl ?_
        obtain ⟨r48, hc, h⟩ := bS h
        refine r_IN (k1 := cl + 143) (k2 := sl + 17204) C hK hX hb hP hS hl.1 (kX3_init hc) rfl (hX.nws wd_106) mo_X3_init wd_107 ⟨Nat.le_of_ble_eq_true rfl, Nat.le_of_ble_eq_true rfl⟩ ⟨by (try simp only [rmX3_init]); omega, by (try simp only [rmX3_init]); omega⟩ ⟨show cl + 143 ≤ 1011 by omega, show sl + 17204 ≤ 121026 by omega⟩ rfl (rest := [.ref nx, .int v1, .ref b44]) rfl (Nat.le_of_ble_eq_true rfl) dX6_init_112 (fun H locs hP hS => ?_)
        refine r_sR C hK hP hS (ti := 5) (by decide) cl_3 rfl dX6_init_115 h (fun M49 H locs h hP hS => ?_)
        refine lv_iinc (v := (v1 + 1)) (lv' := [(1, .int (v1 + 1)), (0, .ref a0)]) C.1 C.2.1 dX6_init_116 hl (k := 1) rfl rfl (by decide) rfl (fun ls hl => ?_)
        refine lv_goto (tgt := 98) C.1 C.2.1 dX6_init_119 (by decide) ?_
        have e := Option.some.inj h
        rw [← e] at hz1
        exact ih ((v1 + 1)) r48.1 M49 r48.2.2 _ _ _ _ _ (by omega) (by omega) hP hS (lv_sub hl [1, 0] rfl) (itK_inl hz1)
      · refine W.widen (k := 1011) (n := 121026) (by omega) (by omega) ?_
        have e := Option.some.inj h
        rw [← e] at hz1
        replace e := itK_inr hz1
        refine W.widen (k := 1011) (n := 121026) (Nat.le_of_ble_eq_true rfl) (Nat.le_of_ble_eq_true rfl) ?_
        exact q_N C hlk hP hS hr e dX6_init_122
  unfold fX6_init at h
  refine lv_aload_n C.1 C.2.1 dX6_init_0 rfl (lv_at hl 0 rfl) ?_
  refine W.objInit (rest := []) C.1 C.2.1 C.2.2.2.1 (C.2.2.2.2 _ wd_101) (C.2.2.2.2 _ wd_102) (C.2.2.2.2 _ w_objc) rfl (hl.1.trans C.2.2.1.symm) rfl dX6_init_1 (Nat.le_of_ble_eq_true rfl) (by show 2 * 0 + _ + 12 ≤ _; exact Nat.le_of_ble_eq_true rfl) ?_
  refine W.eq (g2 := F0 m 4 ls []) rfl ?_
  refine lv_aload_n C.1 C.2.1 dX6_init_4 rfl (lv_at hl 0 rfl) ?_
  refine r_new (k1 := 1) (k2 := 5) C hK hb hP hS cl_3 tyX3 tyX3_ok (by intro k hk; rcases (by omega : k = 0 ∨ k = 1 ∨ k = 2 ∨ k = 3 ∨ k = 4) with rfl | rfl | rfl | rfl | rfl <;> rfl) wd_104 wd_105 wd_76 ⟨Nat.le_of_ble_eq_true rfl, Nat.le_of_ble_eq_true rfl⟩ ⟨Nat.le_of_ble_eq_true rfl, Nat.le_of_ble_eq_true rfl⟩ dX6_init_5 h (fun S1 M2 n3 H locs h hP hS => ?_)
  refine lv_dup C.1 C.2.1 dX6_init_8 rfl ?_
  obtain ⟨r4, hc, h⟩ := bS h
  refine r_IN (k1 := 143) (k2 := 17204) C hK hX hb hP hS hl.1 (kX3_init hc) rfl (hX.nws wd_106) mo_X3_init wd_107 ⟨Nat.le_of_ble_eq_true rfl, Nat.le_of_ble_eq_true rfl⟩ ⟨Nat.le_of_ble_eq_true rfl, Nat.le_of_ble_eq_true rfl⟩ ⟨Nat.le_of_ble_eq_true rfl, Nat.le_of_ble_eq_true rfl⟩ rfl (rest := [.ref nx, .ref a0]) rfl (Nat.le_of_ble_eq_true rfl) dX6_init_9 (fun H locs hP hS => ?_)
  refine r_pFin C hK hP hS hin cl_6 (k := 0) (by decide) wd_264 rfl rfl rfl (tyX6_ok 0 (by decide)) rfl rfl dX6_init_12 h (fun M5 H locs h hP hS => ?_)
  refine lv_aload_n C.1 C.2.1 dX6_init_15 rfl (lv_at hl 0 rfl) ?_
  refine r_new (k1 := 144) (k2 := 17208) C hK hb hP hS cl_2 tyX2 tyX2_ok (by intro k hk; rcases (by omega : k = 0 ∨ k = 1 ∨ k = 2 ∨ k = 3) with rfl | rfl | rfl | rfl <;> rfl) wd_231 wd_232 wd_80 ⟨Nat.le_of_ble_eq_true rfl, Nat.le_of_ble_eq_true rfl⟩ ⟨Nat.le_of_ble_eq_true rfl, Nat.le_of_ble_eq_true rfl⟩ dX6_init_16 h (fun S6 M7 n8 H locs h hP hS => ?_)
  refine lv_dup C.1 C.2.1 dX6_init_19 rfl ?_
  refine lv_aload_n C.1 C.2.1 dX6_init_20 rfl (lv_at hl 0 rfl) ?_
  refine r_gF C hK hP cl_6 (k := 0) (by decide) wd_264 rfl dX6_init_21 h (fun b9 h => ?_)
  obtain ⟨r10, hc, h⟩ := bS h
  refine r_I (k1 := 146) (k2 := 17256) C hK hX hb hP hS hl.1 (kX2_init hc) rfl wd_233 mo_X2_init wd_234 ⟨Nat.le_of_ble_eq_true rfl, Nat.le_of_ble_eq_true rfl⟩ ⟨Nat.le_of_ble_eq_true rfl, Nat.le_of_ble_eq_true rfl⟩ ⟨Nat.le_of_ble_eq_true rfl, Nat.le_of_ble_eq_true rfl⟩ rfl (rest := [.ref r4.2.2, .ref a0]) rfl (Nat.le_of_ble_eq_true rfl) dX6_init_24 (fun H locs hP hS => ?_)
  refine r_pFin C hK hP hS hin cl_6 (k := 1) (by decide) wd_265 rfl rfl rfl (tyX6_ok 1 (by decide)) rfl rfl dX6_init_27 h (fun M11 H locs h hP hS => ?_)
  refine lv_aload_n C.1 C.2.1 dX6_init_30 rfl (lv_at hl 0 rfl) ?_
  refine r_new (k1 := 147) (k2 := 17257) C hK hb hP hS cl_0 tyX0 tyX0_ok (by intro k hk; rcases (by omega : k = 0) with rfl <;> rfl) wd_251 wd_252 wd_81 ⟨Nat.le_of_ble_eq_true rfl, Nat.le_of_ble_eq_true rfl⟩ ⟨Nat.le_of_ble_eq_true rfl, Nat.le_of_ble_eq_true rfl⟩ dX6_init_31 h (fun S12 M13 n14 H locs h hP hS => ?_)
  refine lv_dup C.1 C.2.1 dX6_init_34 rfl ?_
  refine lv_aload_n C.1 C.2.1 dX6_init_35 rfl (lv_at hl 0 rfl) ?_
  refine r_gF C hK hP cl_6 (k := 0) (by decide) wd_264 rfl dX6_init_36 h (fun b15 h => ?_)
  refine r_gFN C hK hP cl_3 (k := 0) (by decide) (hX.nw wd_209) rfl dX6_init_39 h (fun b16 h => ?_)
  obtain ⟨r17, hc, h⟩ := bS h
  refine r_I (k1 := 147) (k2 := 17257) C hK hX hb hP hS hl.1 (kX0_init hc) rfl wd_253 mo_X0_init wd_254 ⟨Nat.le_of_ble_eq_true rfl, Nat.le_of_ble_eq_true rfl⟩ ⟨Nat.le_of_ble_eq_true rfl, Nat.le_of_ble_eq_true rfl⟩ ⟨Nat.le_of_ble_eq_true rfl, Nat.le_of_ble_eq_true rfl⟩ rfl (rest := [.ref r10.2.2, .ref a0]) rfl (Nat.le_of_ble_eq_true rfl) dX6_init_42 (fun H locs hP hS => ?_)
  refine r_pFin C hK hP hS hin cl_6 (k := 2) (by decide) wd_266 rfl rfl rfl (tyX6_ok 2 (by decide)) rfl rfl dX6_init_45 h (fun M18 H locs h hP hS => ?_)
  refine lv_aload_n C.1 C.2.1 dX6_init_48 rfl (lv_at hl 0 rfl) ?_
  refine lv_iconst (v := 5) C.1 C.2.1 dX6_init_49 (by decide) ?_
  refine r_newQ (Cn := "SpokenTree$Scene") (k1 := 148) (k2 := 17262) C hK hb hP hS (ti := 5) (by decide) rfl hX.2.2.2.2.2.2.2.2.2 wd_104 (by decide) ⟨Nat.le_of_ble_eq_true rfl, Nat.le_of_ble_eq_true rfl⟩ ⟨Nat.le_of_ble_eq_true rfl, Nat.le_of_ble_eq_true rfl⟩ dX6_init_50 h (fun S19 M20 n21 H locs h hP hS => ?_)
  refine r_pFin C hK hP hS hin cl_6 (k := 3) (by decide) wd_267 rfl rfl rfl (tyX6_ok 3 (by decide)) rfl rfl dX6_init_53 h (fun M22 H locs h hP hS => ?_)
  refine lv_aload_n C.1 C.2.1 dX6_init_56 rfl (lv_at hl 0 rfl) ?_
  refine lv_iconst (v := 0) C.1 C.2.1 dX6_init_57 (by decide) ?_
  refine r_pI C hK hP hS cl_6 (k := 4) (by decide) wd_268 rfl rfl (tyX6_ok 4 (by decide)) dX6_init_58 h (fun M23 H locs h hP hS => ?_)
  refine lv_aload_n C.1 C.2.1 dX6_init_61 rfl (lv_at hl 0 rfl) ?_
  refine r_new (k1 := 149) (k2 := 17264) C hK hb hP hS cl_5 tyX5 tyX5_ok (by intro k hk; rcases (by omega : k = 0 ∨ k = 1) with rfl | rfl <;> rfl) wd_262 wd_118 wd_78 ⟨Nat.le_of_ble_eq_true rfl, Nat.le_of_ble_eq_true rfl⟩ ⟨Nat.le_of_ble_eq_true rfl, Nat.le_of_ble_eq_true rfl⟩ dX6_init_62 h (fun S24 M25 n26 H locs h hP hS => ?_)
  refine lv_dup C.1 C.2.1 dX6_init_65 rfl ?_
  refine lv_bipush (v := 8) C.1 C.2.1 dX6_init_66 (by decide) ?_
  obtain ⟨r27, hc, h⟩ := bS h
  refine r_I (k1 := 150) (k2 := 17520) C hK hX hb hP hS hl.1 (kX5_init hc) rfl wd_263 mo_X5_init wd_120 ⟨Nat.le_of_ble_eq_true rfl, Nat.le_of_ble_eq_true rfl⟩ ⟨Nat.le_of_ble_eq_true rfl, Nat.le_of_ble_eq_true rfl⟩ ⟨Nat.le_of_ble_eq_true rfl, Nat.le_of_ble_eq_true rfl⟩ rfl (rest := [.ref n21, .ref a0]) rfl (Nat.le_of_ble_eq_true rfl) dX6_init_68 (fun H locs hP hS => ?_)
  refine r_pFin C hK hP hS hin cl_6 (k := 5) (by decide) wd_269 rfl rfl rfl (tyX6_ok 5 (by decide)) rfl rfl dX6_init_71 h (fun M28 H locs h hP hS => ?_)
  refine lv_aload_n C.1 C.2.1 dX6_init_74 rfl (lv_at hl 0 rfl) ?_
  refine r_new (k1 := 151) (k2 := 17522) C hK hb hP hS cl_5 tyX5 tyX5_ok (by intro k hk; rcases (by omega : k = 0 ∨ k = 1) with rfl | rfl <;> rfl) wd_262 wd_118 wd_78 ⟨Nat.le_of_ble_eq_true rfl, Nat.le_of_ble_eq_true rfl⟩ ⟨Nat.le_of_ble_eq_true rfl, Nat.le_of_ble_eq_true rfl⟩ dX6_init_75 h (fun S29 M30 n31 H locs h hP hS => ?_)
  refine lv_dup C.1 C.2.1 dX6_init_78 rfl ?_
  refine lv_sipush (v := 256) C.1 C.2.1 dX6_init_79 (by decide) ?_
  obtain ⟨r32, hc, h⟩ := bS h
  refine r_I (k1 := 152) (k2 := 17778) C hK hX hb hP hS hl.1 (kX5_init hc) rfl wd_263 mo_X5_init wd_120 ⟨Nat.le_of_ble_eq_true rfl, Nat.le_of_ble_eq_true rfl⟩ ⟨Nat.le_of_ble_eq_true rfl, Nat.le_of_ble_eq_true rfl⟩ ⟨Nat.le_of_ble_eq_true rfl, Nat.le_of_ble_eq_true rfl⟩ rfl (rest := [.ref r27.2.2, .ref a0]) rfl (Nat.le_of_ble_eq_true rfl) dX6_init_82 (fun H locs hP hS => ?_)
  refine r_pFin C hK hP hS hin cl_6 (k := 6) (by decide) wd_270 rfl rfl rfl (tyX6_ok 6 (by decide)) rfl rfl dX6_init_85 h (fun M33 H locs h hP hS => ?_)
  refine lv_aload_n C.1 C.2.1 dX6_init_88 rfl (lv_at hl 0 rfl) ?_
  refine lv_bipush (v := 24) C.1 C.2.1 dX6_init_89 (by decide) ?_
  refine r_newA (atype := .int) (k1 := 153) (k2 := 17802) C hK hb hP hS wd_134 (by decide) rfl (by decide) ⟨Nat.le_of_ble_eq_true rfl, Nat.le_of_ble_eq_true rfl⟩ ⟨Nat.le_of_ble_eq_true rfl, Nat.le_of_ble_eq_true rfl⟩ dX6_init_91 h (fun S34 M35 n36 H locs h hP hS => ?_)
  refine r_pFin C hK hP hS hin cl_6 (k := 7) (by decide) wd_271 rfl rfl rfl (tyX6_ok 7 (by decide)) rfl rfl dX6_init_93 h (fun M37 H locs h hP hS => ?_)
  refine lv_iconst (v := 0) C.1 C.2.1 dX6_init_96 (by decide) ?_
  refine lv_istore_n (lv' := [(1, .int 0), (0, .ref a0)]) C.1 C.2.1 dX6_init_97 rfl hl (by decide) rfl (fun ls hl => ?_)
  exact J 6 (0) S34 M37 n36 _ _ _ _ _ (Nat.le_of_ble_eq_true rfl) (Nat.le_of_ble_eq_true rfl) hP hS (lv_sub hl [1, 0] rfl) h
theorem dX7_init_0 : decode cX7_init 0 = .ok (.aload_n 0, 1) := by decide +kernel
theorem dX7_init_1 : decode cX7_init 1 = .ok (.invokespecial 1, 3) := by decide +kernel
theorem dX7_init_4 : decode cX7_init 4 = .ok (.aload_n 0, 1) := by decide +kernel
theorem dX7_init_5 : decode cX7_init 5 = .ok (.sipush 3405, 3) := by decide +kernel
theorem dX7_init_8 : decode cX7_init 8 = .ok (.newarray .int, 2) := by decide +kernel
theorem dX7_init_10 : decode cX7_init 10 = .ok (.putfield 7, 3) := by decide +kernel
theorem dX7_init_13 : decode cX7_init 13 = .ok (.aload_n 0, 1) := by decide +kernel
theorem dX7_init_14 : decode cX7_init 14 = .ok (.sipush 17025, 3) := by decide +kernel
theorem dX7_init_17 : decode cX7_init 17 = .ok (.newarray .int, 2) := by decide +kernel
theorem dX7_init_19 : decode cX7_init 19 = .ok (.putfield 13, 3) := by decide +kernel
theorem dX7_init_22 : decode cX7_init 22 = .ok (.aload_n 0, 1) := by decide +kernel
theorem dX7_init_23 : decode cX7_init 23 = .ok (.bipush 8, 2) := by decide +kernel
theorem dX7_init_25 : decode cX7_init 25 = .ok (.newarray .int, 2) := by decide +kernel
theorem dX7_init_27 : decode cX7_init 27 = .ok (.putfield 16, 3) := by decide +kernel
theorem dX7_init_30 : decode cX7_init 30 = .ok (.aload_n 0, 1) := by decide +kernel
theorem dX7_init_31 : decode cX7_init 31 = .ok (.sipush 260, 3) := by decide +kernel
theorem dX7_init_34 : decode cX7_init 34 = .ok (.newarray .int, 2) := by decide +kernel
theorem dX7_init_36 : decode cX7_init 36 = .ok (.putfield 19, 3) := by decide +kernel
theorem dX7_init_39 : decode cX7_init 39 = .ok (.aload_n 0, 1) := by decide +kernel
theorem dX7_init_40 : decode cX7_init 40 = .ok (.bipush 24, 2) := by decide +kernel
theorem dX7_init_42 : decode cX7_init 42 = .ok (.newarray .boolean, 2) := by decide +kernel
theorem dX7_init_44 : decode cX7_init 44 = .ok (.putfield 22, 3) := by decide +kernel
theorem dX7_init_47 : decode cX7_init 47 = .ok (.aload_n 0, 1) := by decide +kernel
theorem dX7_init_48 : decode cX7_init 48 = .ok (.bipush 24, 2) := by decide +kernel
theorem dX7_init_50 : decode cX7_init 50 = .ok (.newarray .int, 2) := by decide +kernel
theorem dX7_init_52 : decode cX7_init 52 = .ok (.putfield 26, 3) := by decide +kernel
theorem dX7_init_55 : decode cX7_init 55 = .ok (.aload_n 0, 1) := by decide +kernel
theorem dX7_init_56 : decode cX7_init 56 = .ok (.getfield 7, 3) := by decide +kernel
theorem dX7_init_59 : decode cX7_init 59 = .ok (.iconst 0, 1) := by decide +kernel
theorem dX7_init_60 : decode cX7_init 60 = .ok (.iconst 1, 1) := by decide +kernel
theorem dX7_init_61 : decode cX7_init 61 = .ok (.iastore, 1) := by decide +kernel
theorem dX7_init_62 : decode cX7_init 62 = .ok (.aload_n 0, 1) := by decide +kernel
theorem dX7_init_63 : decode cX7_init 63 = .ok (.getfield 7, 3) := by decide +kernel
theorem dX7_init_66 : decode cX7_init 66 = .ok (.iconst 1, 1) := by decide +kernel
theorem dX7_init_67 : decode cX7_init 67 = .ok (.iconst (-1), 1) := by decide +kernel
theorem dX7_init_68 : decode cX7_init 68 = .ok (.iastore, 1) := by decide +kernel
theorem dX7_init_69 : decode cX7_init 69 = .ok (.aload_n 0, 1) := by decide +kernel
theorem dX7_init_70 : decode cX7_init 70 = .ok (.getfield 7, 3) := by decide +kernel
theorem dX7_init_73 : decode cX7_init 73 = .ok (.iconst 4, 1) := by decide +kernel
theorem dX7_init_74 : decode cX7_init 74 = .ok (.iconst (-1), 1) := by decide +kernel
theorem dX7_init_75 : decode cX7_init 75 = .ok (.iastore, 1) := by decide +kernel
theorem dX7_init_76 : decode cX7_init 76 = .ok (.aload_n 0, 1) := by decide +kernel
theorem dX7_init_77 : decode cX7_init 77 = .ok (.getfield 7, 3) := by decide +kernel
theorem dX7_init_80 : decode cX7_init 80 = .ok (.bipush 11, 2) := by decide +kernel
theorem dX7_init_82 : decode cX7_init 82 = .ok (.iconst (-1), 1) := by decide +kernel
theorem dX7_init_83 : decode cX7_init 83 = .ok (.iastore, 1) := by decide +kernel
theorem dX7_init_84 : decode cX7_init 84 = .ok (.aload_n 0, 1) := by decide +kernel
theorem dX7_init_85 : decode cX7_init 85 = .ok (.getfield 7, 3) := by decide +kernel
theorem dX7_init_88 : decode cX7_init 88 = .ok (.sipush 3402, 3) := by decide +kernel
theorem dX7_init_91 : decode cX7_init 91 = .ok (.iconst (-1), 1) := by decide +kernel
theorem dX7_init_92 : decode cX7_init 92 = .ok (.iastore, 1) := by decide +kernel
theorem dX7_init_93 : decode cX7_init 93 = .ok (.aload_n 0, 1) := by decide +kernel
theorem dX7_init_94 : decode cX7_init 94 = .ok (.getfield 7, 3) := by decide +kernel
theorem dX7_init_97 : decode cX7_init 97 = .ok (.sipush 3403, 3) := by decide +kernel
theorem dX7_init_100 : decode cX7_init 100 = .ok (.iconst (-1), 1) := by decide +kernel
theorem dX7_init_101 : decode cX7_init 101 = .ok (.iastore, 1) := by decide +kernel
theorem dX7_init_102 : decode cX7_init 102 = .ok (.return_, 1) := by decide +kernel
abbrev rmX7_init : Room := { frames := 2, cells := 6, slots := 20746, locals := 60 }
noncomputable def fX7_init (n : Nat) (Sh : Sp) (M : Mm) (nx : Nat) (a0 : Nat) : Option (Sp × Mm × Nat) :=
  nA Sh M nx 0 3405 3405 fun S1 M2 n3 =>
  pF S1 M2 a0 7 0 nx fun M4 =>
  nA S1 M4 n3 0 17025 17025 fun S5 M6 n7 =>
  pF S5 M6 a0 7 1 n3 fun M8 =>
  nA S5 M8 n7 0 8 8 fun S9 M10 n11 =>
  pF S9 M10 a0 7 3 n7 fun M12 =>
  nA S9 M12 n11 0 260 260 fun S13 M14 n15 =>
  pF S13 M14 a0 7 6 n11 fun M16 =>
  nA S13 M16 n15 3 24 24 fun S17 M18 n19 =>
  pF S17 M18 a0 7 8 n15 fun M20 =>
  nA S17 M20 n19 0 24 24 fun S21 M22 n23 =>
  pF S21 M22 a0 7 9 n19 fun M24 =>
  gF S21 M24 a0 7 0 fun b25 =>
  sI S21 M24 b25 0 1 fun M26 =>
  gF S21 M26 a0 7 0 fun b27 =>
  sI S21 M26 b27 1 (-1) fun M28 =>
  gF S21 M28 a0 7 0 fun b29 =>
  sI S21 M28 b29 4 (-1) fun M30 =>
  gF S21 M30 a0 7 0 fun b31 =>
  sI S21 M30 b31 11 (-1) fun M32 =>
  gF S21 M32 a0 7 0 fun b33 =>
  sI S21 M32 b33 3402 (-1) fun M34 =>
  gF S21 M34 a0 7 0 fun b35 =>
  sI S21 M34 b35 3403 (-1) fun M36 =>
  some (S21, M36, n23)
set_option maxRecDepth 100000 in
set_option maxHeartbeats 4000000 in
theorem kX7_init {l : Launch} {G : Gt} {n : Nat} {Sh : Sp} {M : Mm} {nx : Nat} {a0 : Nat} {r : Sp × Mm × Nat} (h : fX7_init n Sh M nx a0 = some r) : CtN l yX7_init cX7_init 1 rmX7_init G Sh M nx [.ref a0] r := by
  refine CtN.of (by decide) rfl (Nat.le_of_ble_eq_true rfl) ?_
  intro p e s m args below meth c ls C hK hX hP hS hb hlk hr hin hl
  replace hl : lv_has ls 1 [(0, .ref a0)] := hl
  unfold fX7_init at h
  refine lv_aload_n C.1 C.2.1 dX7_init_0 rfl (lv_at hl 0 rfl) ?_
  refine W.objInit (rest := []) C.1 C.2.1 C.2.2.2.1 (C.2.2.2.2 _ wd_1143) (C.2.2.2.2 _ wd_102) (C.2.2.2.2 _ w_objc) rfl (hl.1.trans C.2.2.1.symm) rfl dX7_init_1 (Nat.le_of_ble_eq_true rfl) (by show 2 * 0 + _ + 12 ≤ _; exact Nat.le_of_ble_eq_true rfl) ?_
  refine W.eq (g2 := F0 m 4 ls []) rfl ?_
  refine lv_aload_n C.1 C.2.1 dX7_init_4 rfl (lv_at hl 0 rfl) ?_
  refine lv_sipush (v := 3405) C.1 C.2.1 dX7_init_5 (by decide) ?_
  refine r_newA (atype := .int) (k1 := 1) (k2 := 3405) C hK hb hP hS wd_134 (by decide) rfl (by decide) ⟨Nat.le_of_ble_eq_true rfl, Nat.le_of_ble_eq_true rfl⟩ ⟨Nat.le_of_ble_eq_true rfl, Nat.le_of_ble_eq_true rfl⟩ dX7_init_8 h (fun S1 M2 n3 H locs h hP hS => ?_)
  refine r_pFin C hK hP hS hin cl_7 (k := 0) (by decide) wd_1144 rfl rfl rfl (tyX7_ok 0 (by decide)) rfl rfl dX7_init_10 h (fun M4 H locs h hP hS => ?_)
  refine lv_aload_n C.1 C.2.1 dX7_init_13 rfl (lv_at hl 0 rfl) ?_
  refine lv_sipush (v := 17025) C.1 C.2.1 dX7_init_14 (by decide) ?_
  refine r_newA (atype := .int) (k1 := 2) (k2 := 20430) C hK hb hP hS wd_134 (by decide) rfl (by decide) ⟨Nat.le_of_ble_eq_true rfl, Nat.le_of_ble_eq_true rfl⟩ ⟨Nat.le_of_ble_eq_true rfl, Nat.le_of_ble_eq_true rfl⟩ dX7_init_17 h (fun S5 M6 n7 H locs h hP hS => ?_)
  refine r_pFin C hK hP hS hin cl_7 (k := 1) (by decide) wd_1145 rfl rfl rfl (tyX7_ok 1 (by decide)) rfl rfl dX7_init_19 h (fun M8 H locs h hP hS => ?_)
  refine lv_aload_n C.1 C.2.1 dX7_init_22 rfl (lv_at hl 0 rfl) ?_
  refine lv_bipush (v := 8) C.1 C.2.1 dX7_init_23 (by decide) ?_
  refine r_newA (atype := .int) (k1 := 3) (k2 := 20438) C hK hb hP hS wd_134 (by decide) rfl (by decide) ⟨Nat.le_of_ble_eq_true rfl, Nat.le_of_ble_eq_true rfl⟩ ⟨Nat.le_of_ble_eq_true rfl, Nat.le_of_ble_eq_true rfl⟩ dX7_init_25 h (fun S9 M10 n11 H locs h hP hS => ?_)
  refine r_pFin C hK hP hS hin cl_7 (k := 3) (by decide) wd_1147 rfl rfl rfl (tyX7_ok 3 (by decide)) rfl rfl dX7_init_27 h (fun M12 H locs h hP hS => ?_)
  refine lv_aload_n C.1 C.2.1 dX7_init_30 rfl (lv_at hl 0 rfl) ?_
  refine lv_sipush (v := 260) C.1 C.2.1 dX7_init_31 (by decide) ?_
  refine r_newA (atype := .int) (k1 := 4) (k2 := 20698) C hK hb hP hS wd_134 (by decide) rfl (by decide) ⟨Nat.le_of_ble_eq_true rfl, Nat.le_of_ble_eq_true rfl⟩ ⟨Nat.le_of_ble_eq_true rfl, Nat.le_of_ble_eq_true rfl⟩ dX7_init_34 h (fun S13 M14 n15 H locs h hP hS => ?_)
  refine r_pFin C hK hP hS hin cl_7 (k := 6) (by decide) wd_1150 rfl rfl rfl (tyX7_ok 6 (by decide)) rfl rfl dX7_init_36 h (fun M16 H locs h hP hS => ?_)
  refine lv_aload_n C.1 C.2.1 dX7_init_39 rfl (lv_at hl 0 rfl) ?_
  refine lv_bipush (v := 24) C.1 C.2.1 dX7_init_40 (by decide) ?_
  refine r_newA (atype := .boolean) (k1 := 5) (k2 := 20722) C hK hb hP hS wd_1181 (by decide) rfl (by decide) ⟨Nat.le_of_ble_eq_true rfl, Nat.le_of_ble_eq_true rfl⟩ ⟨Nat.le_of_ble_eq_true rfl, Nat.le_of_ble_eq_true rfl⟩ dX7_init_42 h (fun S17 M18 n19 H locs h hP hS => ?_)
  refine r_pFin C hK hP hS hin cl_7 (k := 8) (by decide) wd_1152 rfl rfl rfl (tyX7_ok 8 (by decide)) rfl rfl dX7_init_44 h (fun M20 H locs h hP hS => ?_)
  refine lv_aload_n C.1 C.2.1 dX7_init_47 rfl (lv_at hl 0 rfl) ?_
  refine lv_bipush (v := 24) C.1 C.2.1 dX7_init_48 (by decide) ?_
  refine r_newA (atype := .int) (k1 := 6) (k2 := 20746) C hK hb hP hS wd_134 (by decide) rfl (by decide) ⟨Nat.le_of_ble_eq_true rfl, Nat.le_of_ble_eq_true rfl⟩ ⟨Nat.le_of_ble_eq_true rfl, Nat.le_of_ble_eq_true rfl⟩ dX7_init_50 h (fun S21 M22 n23 H locs h hP hS => ?_)
  refine r_pFin C hK hP hS hin cl_7 (k := 9) (by decide) wd_1153 rfl rfl rfl (tyX7_ok 9 (by decide)) rfl rfl dX7_init_52 h (fun M24 H locs h hP hS => ?_)
  refine lv_aload_n C.1 C.2.1 dX7_init_55 rfl (lv_at hl 0 rfl) ?_
  refine r_gF C hK hP cl_7 (k := 0) (by decide) wd_1144 rfl dX7_init_56 h (fun b25 h => ?_)
  refine lv_iconst (v := 0) C.1 C.2.1 dX7_init_59 (by decide) ?_
  refine lv_iconst (v := 1) C.1 C.2.1 dX7_init_60 (by decide) ?_
  refine r_sI C hK hP hS dX7_init_61 h (fun M26 H locs h hP hS => ?_)
  refine lv_aload_n C.1 C.2.1 dX7_init_62 rfl (lv_at hl 0 rfl) ?_
  refine r_gF C hK hP cl_7 (k := 0) (by decide) wd_1144 rfl dX7_init_63 h (fun b27 h => ?_)
  refine lv_iconst (v := 1) C.1 C.2.1 dX7_init_66 (by decide) ?_
  refine lv_iconst (v := (-1)) C.1 C.2.1 dX7_init_67 (by decide) ?_
  refine r_sI C hK hP hS dX7_init_68 h (fun M28 H locs h hP hS => ?_)
  refine lv_aload_n C.1 C.2.1 dX7_init_69 rfl (lv_at hl 0 rfl) ?_
  refine r_gF C hK hP cl_7 (k := 0) (by decide) wd_1144 rfl dX7_init_70 h (fun b29 h => ?_)
  refine lv_iconst (v := 4) C.1 C.2.1 dX7_init_73 (by decide) ?_
  refine lv_iconst (v := (-1)) C.1 C.2.1 dX7_init_74 (by decide) ?_
  refine r_sI C hK hP hS dX7_init_75 h (fun M30 H locs h hP hS => ?_)
  refine lv_aload_n C.1 C.2.1 dX7_init_76 rfl (lv_at hl 0 rfl) ?_
  refine r_gF C hK hP cl_7 (k := 0) (by decide) wd_1144 rfl dX7_init_77 h (fun b31 h => ?_)
  refine lv_bipush (v := 11) C.1 C.2.1 dX7_init_80 (by decide) ?_
  refine lv_iconst (v := (-1)) C.1 C.2.1 dX7_init_82 (by decide) ?_
  refine r_sI C hK hP hS dX7_init_83 h (fun M32 H locs h hP hS => ?_)
  refine lv_aload_n C.1 C.2.1 dX7_init_84 rfl (lv_at hl 0 rfl) ?_
  refine r_gF C hK hP cl_7 (k := 0) (by decide) wd_1144 rfl dX7_init_85 h (fun b33 h => ?_)
  refine lv_sipush (v := 3402) C.1 C.2.1 dX7_init_88 (by decide) ?_
  refine lv_iconst (v := (-1)) C.1 C.2.1 dX7_init_91 (by decide) ?_
  refine r_sI C hK hP hS dX7_init_92 h (fun M34 H locs h hP hS => ?_)
  refine lv_aload_n C.1 C.2.1 dX7_init_93 rfl (lv_at hl 0 rfl) ?_
  refine r_gF C hK hP cl_7 (k := 0) (by decide) wd_1144 rfl dX7_init_94 h (fun b35 h => ?_)
  refine lv_sipush (v := 3403) C.1 C.2.1 dX7_init_97 (by decide) ?_
  refine lv_iconst (v := (-1)) C.1 C.2.1 dX7_init_100 (by decide) ?_
  refine r_sI C hK hP hS dX7_init_101 h (fun M36 H locs h hP hS => ?_)
  have e := Option.some.inj h
  refine W.widen (k := 6) (n := 20746) (Nat.le_of_ble_eq_true rfl) (Nat.le_of_ble_eq_true rfl) ?_
  exact q_N C hlk hP hS hr e dX7_init_102
