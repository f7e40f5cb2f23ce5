theorem mo_X6_announced : MOK yX6_announced cX6_announced 3 (some .int) 2 := ⟨wd_582, wd_75, by decide +kernel, by decide +kernel, by decide +kernel⟩
theorem mo_X6_checksum : MOK yX6_checksum cX6_checksum 5 (some .long) 0 := ⟨wd_621, wd_75, by decide +kernel, by decide +kernel, by decide +kernel⟩
theorem mo_X6_clearText : MOK yX6_clearText cX6_clearText 2 (some .int) 0 := ⟨wd_616, wd_75, by decide +kernel, by decide +kernel, by decide +kernel⟩
theorem mo_X6_focus : MOK yX6_focus cX6_focus 1 (some .int) 0 := ⟨wd_381, wd_75, by decide +kernel, by decide +kernel, by decide +kernel⟩
theorem mo_X6_focusOrder : MOK yX6_focusOrder cX6_focusOrder 2 (some .int) 1 := ⟨wd_332, wd_75, by decide +kernel, by decide +kernel, by decide +kernel⟩
theorem mo_X6_inOrder : MOK yX6_inOrder cX6_inOrder 3 (some .int) 1 := ⟨wd_312, wd_75, by decide +kernel, by decide +kernel, by decide +kernel⟩
theorem mo_X6_init : MOK yX6_init cX6_init 2 none 0 := ⟨wd_100, wd_75, by decide +kernel, by decide +kernel, by decide +kernel⟩
theorem mo_X6_pending : MOK yX6_pending cX6_pending 1 (some .int) 0 := ⟨wd_578, wd_75, by decide +kernel, by decide +kernel, by decide +kernel⟩
theorem mo_X6_silence : MOK yX6_silence cX6_silence 1 (some .int) 0 := ⟨wd_608, wd_75, by decide +kernel, by decide +kernel, by decide +kernel⟩
theorem mo_X6_speak : MOK yX6_speak cX6_speak 1 (some .int) 0 := ⟨wd_591, wd_75, by decide +kernel, by decide +kernel, by decide +kernel⟩
theorem mo_X6_spoken : MOK yX6_spoken cX6_spoken 2 (some .int) 1 := ⟨wd_603, wd_75, by decide +kernel, by decide +kernel, by decide +kernel⟩
theorem mo_X6_step : MOK yX6_step cX6_step 3 (some .int) 1 := ⟨wd_393, wd_75, by decide +kernel, by decide +kernel, by decide +kernel⟩
theorem mo_X7_announced : MOK yX7_announced cX7_announced 3 (some .int) 2 := ⟨wd_1453, wd_82, by decide +kernel, by decide +kernel, by decide +kernel⟩
theorem mo_X7_announcement : MOK yX7_announcement cX7_announcement 3 (some .int) 2 := ⟨wd_1449, wd_82, by decide +kernel, by decide +kernel, by decide +kernel⟩
theorem mo_X7_canFocus : MOK yX7_canFocus cX7_canFocus 2 (some .boolean) 1 := ⟨wd_1385, wd_82, by decide +kernel, by decide +kernel, by decide +kernel⟩
theorem mo_X7_cellAt : MOK yX7_cellAt cX7_cellAt 4 (some .int) 3 := ⟨wd_1489, wd_82, by decide +kernel, by decide +kernel, by decide +kernel⟩
theorem mo_X7_cellPlace : MOK yX7_cellPlace cX7_cellPlace 3 (some .int) 2 := ⟨wd_1473, wd_82, by decide +kernel, by decide +kernel, by decide +kernel⟩
theorem mo_X7_character : MOK yX7_character cX7_character 4 (some .int) 3 := ⟨wd_1373, wd_82, by decide +kernel, by decide +kernel, by decide +kernel⟩
theorem mo_X7_checksum : MOK yX7_checksum cX7_checksum 3 (some .long) 0 := ⟨wd_1541, wd_82, by decide +kernel, by decide +kernel, by decide +kernel⟩
theorem mo_X7_child : MOK yX7_child cX7_child 3 (some .int) 2 := ⟨wd_1271, wd_82, by decide +kernel, by decide +kernel, by decide +kernel⟩
theorem mo_X7_clearText : MOK yX7_clearText cX7_clearText 2 (some .int) 0 := ⟨wd_1533, wd_82, by decide +kernel, by decide +kernel, by decide +kernel⟩
theorem mo_X7_close : MOK yX7_close cX7_close 3 (some .int) 1 := ⟨wd_1433, wd_82, by decide +kernel, by decide +kernel, by decide +kernel⟩
theorem mo_X7_create : MOK yX7_create cX7_create 6 (some .int) 3 := ⟨wd_1189, wd_82, by decide +kernel, by decide +kernel, by decide +kernel⟩
theorem mo_X7_focus : MOK yX7_focus cX7_focus 1 (some .int) 0 := ⟨wd_1405, wd_82, by decide +kernel, by decide +kernel, by decide +kernel⟩
theorem mo_X7_focusOn : MOK yX7_focusOn cX7_focusOn 3 (some .int) 1 := ⟨wd_1413, wd_82, by decide +kernel, by decide +kernel, by decide +kernel⟩
theorem mo_X7_focusOrder : MOK yX7_focusOrder cX7_focusOrder 2 (some .int) 1 := ⟨wd_1397, wd_82, by decide +kernel, by decide +kernel, by decide +kernel⟩
theorem mo_X7_header : MOK yX7_header cX7_header 3 (some .int) 2 := ⟨wd_1501, wd_82, by decide +kernel, by decide +kernel, by decide +kernel⟩
theorem mo_X7_inOrder : MOK yX7_inOrder cX7_inOrder 4 (some .int) 1 := ⟨wd_1381, wd_82, by decide +kernel, by decide +kernel, by decide +kernel⟩
theorem mo_X7_info : MOK yX7_info cX7_info 3 (some .int) 2 := ⟨wd_1255, wd_82, by decide +kernel, by decide +kernel, by decide +kernel⟩
theorem mo_X7_init : MOK yX7_init cX7_init 1 none 0 := ⟨wd_1142, wd_82, by decide +kernel, by decide +kernel, by decide +kernel⟩
theorem mo_X7_length : MOK yX7_length cX7_length 3 (some .int) 2 := ⟨wd_1377, wd_82, by decide +kernel, by decide +kernel, by decide +kernel⟩
theorem mo_X7_move : MOK yX7_move cX7_move 6 (some .int) 3 := ⟨wd_1247, wd_82, by decide +kernel, by decide +kernel, by decide +kernel⟩
theorem mo_X7_nodes : MOK yX7_nodes cX7_nodes 3 (some .int) 0 := ⟨wd_1251, wd_82, by decide +kernel, by decide +kernel, by decide +kernel⟩
theorem mo_X7_open : MOK yX7_open cX7_open 2 (some .int) 1 := ⟨wd_1429, wd_82, by decide +kernel, by decide +kernel, by decide +kernel⟩
theorem mo_X7_pending : MOK yX7_pending cX7_pending 1 (some .int) 0 := ⟨wd_1445, wd_82, by decide +kernel, by decide +kernel, by decide +kernel⟩
theorem mo_X7_read : MOK yX7_read cX7_read 2 (some .int) 1 := ⟨wd_1509, wd_82, by decide +kernel, by decide +kernel, by decide +kernel⟩
theorem mo_X7_readBeside : MOK yX7_readBeside cX7_readBeside 4 (some .int) 1 := ⟨wd_1521, wd_82, by decide +kernel, by decide +kernel, by decide +kernel⟩
theorem mo_X7_region : MOK yX7_region cX7_region 2 (some .int) 1 := ⟨wd_1441, wd_82, by decide +kernel, by decide +kernel, by decide +kernel⟩
theorem mo_X7_remove : MOK yX7_remove cX7_remove 4 (some .int) 1 := ⟨wd_1224, wd_82, by decide +kernel, by decide +kernel, by decide +kernel⟩
theorem mo_X7_set : MOK yX7_set cX7_set 5 (some .int) 3 := ⟨wd_1279, wd_82, by decide +kernel, by decide +kernel, by decide +kernel⟩
theorem mo_X7_setLabel : MOK yX7_setLabel cX7_setLabel 3 (some .int) 1 := ⟨wd_1365, wd_82, by decide +kernel, by decide +kernel, by decide +kernel⟩
theorem mo_X7_setLabelledBy : MOK yX7_setLabelledBy cX7_setLabelledBy 4 (some .int) 2 := ⟨wd_1369, wd_82, by decide +kernel, by decide +kernel, by decide +kernel⟩
theorem mo_X7_setText : MOK yX7_setText cX7_setText 3 (some .int) 1 := ⟨wd_1357, wd_82, by decide +kernel, by decide +kernel, by decide +kernel⟩
theorem mo_X7_silence : MOK yX7_silence cX7_silence 2 (some .int) 0 := ⟨wd_1469, wd_82, by decide +kernel, by decide +kernel, by decide +kernel⟩
theorem mo_X7_speak : MOK yX7_speak cX7_speak 3 (some .int) 0 := ⟨wd_1461, wd_82, by decide +kernel, by decide +kernel, by decide +kernel⟩
theorem mo_X7_spoken : MOK yX7_spoken cX7_spoken 2 (some .int) 1 := ⟨wd_1465, wd_82, by decide +kernel, by decide +kernel, by decide +kernel⟩
theorem mo_X7_step : MOK yX7_step cX7_step 5 (some .int) 1 := ⟨wd_1425, wd_82, by decide +kernel, by decide +kernel, by decide +kernel⟩
theorem mo_X7_thrown : MOK yX7_thrown cX7_thrown 1 (some .int) 0 := ⟨wd_1185, wd_82, by decide +kernel, by decide +kernel, by decide +kernel⟩
theorem mo_X7_trap : MOK yX7_trap cX7_trap 1 (some .int) 0 := ⟨wd_1437, wd_82, by decide +kernel, by decide +kernel, by decide +kernel⟩
theorem mo_X7_type : MOK yX7_type cX7_type 2 (some .int) 1 := ⟨wd_1529, wd_82, by decide +kernel, by decide +kernel, by decide +kernel⟩
theorem mo_X7_undo : MOK yX7_undo cX7_undo 2 (some .int) 0 := ⟨wd_1537, wd_82, by decide +kernel, by decide +kernel, by decide +kernel⟩
section LAWC
variable {p : Program} {l : Launch} {e : Env} {s : State} {m : MethodId} {args : Array Value} {below : List Frame} {meth : Method} {c : Code} {Q : State → Prop} {G : Gt} {n : Nat} {Sh : Sp} {b L x mm out cl sl : Nat} {xs : Nat → Int32} {i : Int32} {M : Mm} {H : Heap} {locs : List Loc} {ls : Array Slot}
noncomputable def fL_c0 (n : Nat) (Sh : Sp) (xs : Nat → Int32) (L x mm out : Nat) (i : Int32) (M : Mm) : Option (Mm ⊕ Int32) :=
  scr xs L (i + 1) fun t1 =>
  scr xs L (i + 2) fun t2 =>
  scr xs L (i + 3) fun t3 =>
  (fL_create n Sh M x t1 t2 t3 out).bind fun r4 =>
  scr xs L (i + 1) fun t5 =>
  scr xs L (i + 2) fun t6 =>
  scr xs L (i + 3) fun t7 =>
  (fX7_create n Sh r4.2 mm t5 t6 t7).bind fun r8 =>
  (fX7_thrown n Sh r8.2 mm).bind fun r9 =>
  if r9 = r4.1 then
    if r4.1 = 0 then
      aL Sh r8.2 out 0 fun y10 =>
      if (y10 : Int64) = (Int32.toInt64 r8.1) then
        some (Sum.inl r8.2)
      else
        some (Sum.inr 0)
    else
      some (Sum.inl r8.2)
  else
    some (Sum.inr 0)
set_option maxRecDepth 100000 in
set_option maxHeartbeats 4000000 in
theorem kL_c0 (C : CallFix p m c cL_law 7 s args GW RL) (hfl : l.stackTraces = false) (hK : KK G s) (hX : XE G s s.heap) (hN : NC s) (hb : G.1 ≤ s.heap.size) (hXs : va_X b L xs s s.heap) (hbl : b < s.heap.size) (hbA : ¬ AA G b) (hTx : Sh x = some (.inl 6)) (hTm : Sh mm = some (.inl 7)) {z : Mm ⊕ Int32} (h : fL_c0 n Sh xs L x mm out i M = some z) (hRc : cl + 8 ≤ room_1.cells ∧ sl + 48 ≤ room_1.slots) (hP : HM G Sh M H) (hS : va_S (AA G) s.heap H locs) (hl : lv_has ls 7 [(0, .ref b), (1, .ref x), (2, .ref mm), (3, .ref out), (4, .int i)]) (hno : ∀ q : Int32, z = .inr q → q = 1)
    (hk : ∀ (M1 : Mm) (H : Heap) (locs : List Loc) (ls : Array Slot), z = .inl M1 → HM G Sh M1 H → va_S (AA G) s.heap H locs → lv_has ls 7 [(0, .ref b), (1, .ref x), (2, .ref mm), (3, .ref out), (4, .int i)] → W p l e room_1 s m args below meth c H locs (cl + 8) (sl + 48) Q (F0 m 2033 ls [])) :
    W p l e room_1 s m args below meth c H locs cl sl Q (F0 m 200 ls []) := by
  have hR0 : cl + 0 ≤ room_1.cells ∧ sl + 0 ≤ room_1.slots := ⟨Nat.le_trans (Nat.le_add_right cl 8) hRc.1, Nat.le_trans (Nat.le_add_right sl 48) hRc.2⟩
  unfold fL_c0 at h
  refine lv_aload_n C.1 C.2.1 dL_law_200 rfl (lv_at hl 1 rfl) ?_
  refine lv_aload_n C.1 C.2.1 dL_law_201 rfl (lv_at hl 0 rfl) ?_
  refine lv_iload C.1 C.2.1 dL_law_202 (lv_at hl 4 rfl) ?_
  refine lv_iconst (v := 1) C.1 C.2.1 dL_law_204 (by decide) ?_
  refine lv_iadd C.1 C.2.1 dL_law_205 ?_
  refine r_scr C hXs hbl hbA hS dL_law_206 h (fun t1 h => ?_)
  refine lv_aload_n C.1 C.2.1 dL_law_207 rfl (lv_at hl 0 rfl) ?_
  refine lv_iload C.1 C.2.1 dL_law_208 (lv_at hl 4 rfl) ?_
  refine lv_iconst (v := 2) C.1 C.2.1 dL_law_210 (by decide) ?_
  refine lv_iadd C.1 C.2.1 dL_law_211 ?_
  refine r_scr C hXs hbl hbA hS dL_law_212 h (fun t2 h => ?_)
  refine lv_aload_n C.1 C.2.1 dL_law_213 rfl (lv_at hl 0 rfl) ?_
  refine lv_iload C.1 C.2.1 dL_law_214 (lv_at hl 4 rfl) ?_
  refine lv_iconst (v := 3) C.1 C.2.1 dL_law_216 (by decide) ?_
  refine lv_iadd C.1 C.2.1 dL_law_217 ?_
  refine r_scr C hXs hbl hbA hS dL_law_218 h (fun t3 h => ?_)
  refine lv_aload_n C.1 C.2.1 dL_law_219 rfl (lv_at hl 3 rfl) ?_
  obtain ⟨r4, hc, h⟩ := bS h
  refine r_W (n := 5) C hK hX hN hb hP hS hl.1 (kL_create hfl hc) wd_661 wd_663 wd_74 ⟨by decide +kernel, by decide +kernel, by decide +kernel⟩ wd_662 ⟨Nat.le_of_ble_eq_true rfl, Nat.le_of_ble_eq_true rfl⟩ (k1 := cl + 8) (k2 := sl + 48) ⟨Nat.add_le_add_left (Nat.le_of_ble_eq_true rfl) _, Nat.add_le_add_left (Nat.le_of_ble_eq_true rfl) _⟩ hRc rfl (rest := []) rfl (Nat.le_of_ble_eq_true rfl) dL_law_220 (fun H locs hP hS => ?_)
  refine lv_istore (lv' := [(5, .int r4.1), (0, .ref b), (1, .ref x), (2, .ref mm), (3, .ref out), (4, .int i)]) C.1 C.2.1 dL_law_223 hl (by decide) rfl (fun ls hl => ?_)
  refine lv_aload_n C.1 C.2.1 dL_law_225 rfl (lv_at hl 3 rfl) ?_
  refine lv_aload_n C.1 C.2.1 dL_law_226 rfl (lv_at hl 1 rfl) ?_
  refine lv_iload C.1 C.2.1 dL_law_227 (lv_at hl 5 rfl) ?_
  refine lv_iconst (v := 1) C.1 C.2.1 dL_law_229 (by decide) ?_
  refine lv_iadd C.1 C.2.1 dL_law_230 ?_
  refine r_scr C hXs hbl hbA hS dL_law_231 h (fun t5 h => ?_)
  refine lv_aload_n C.1 C.2.1 dL_law_232 rfl (lv_at hl 1 rfl) ?_
  refine lv_iload C.1 C.2.1 dL_law_233 (lv_at hl 5 rfl) ?_
  refine lv_iconst (v := 2) C.1 C.2.1 dL_law_235 (by decide) ?_
  refine lv_iadd C.1 C.2.1 dL_law_236 ?_
  refine r_scr C hXs hbl hbA hS dL_law_237 h (fun t6 h => ?_)
  refine lv_aload_n C.1 C.2.1 dL_law_238 rfl (lv_at hl 1 rfl) ?_
  refine lv_iload C.1 C.2.1 dL_law_239 (lv_at hl 5 rfl) ?_
  refine lv_iconst (v := 3) C.1 C.2.1 dL_law_241 (by decide) ?_
  refine lv_iadd C.1 C.2.1 dL_law_242 ?_
  refine r_scr C hXs hbl hbA hS dL_law_243 h (fun t7 h => ?_)
  obtain ⟨r8, hc, h⟩ := bS h
  refine r_V1 C hK hX hb hP ⟨hS, rfl⟩ hl.1 (kX7_create hTm hc) hTm cl_7 wd_1186 mo_X7_create wd_1187 wd_1188 ⟨Nat.le_of_ble_eq_true rfl, Nat.le_of_ble_eq_true rfl⟩ hRc rfl (rest := []) rfl (Nat.le_of_ble_eq_true rfl) dL_law_244 (fun H locs hP hS => ?_)
  replace hS := hS.1
  refine W.widen (k := cl + 8) (n := sl + 48) (Nat.le_refl _) (Nat.le_refl _) ?_
  refine lv_istore (lv' := [(6, .int r8.1), (5, .int r4.1), (0, .ref b), (1, .ref x), (2, .ref mm), (3, .ref out), (4, .int i)]) C.1 C.2.1 dL_law_247 hl (by decide) rfl (fun ls hl => ?_)
  refine lv_aload_n C.1 C.2.1 dL_law_249 rfl (lv_at hl 4 rfl) ?_
  obtain ⟨r9, hc, h⟩ := bS h
  refine r_V1 C hK hX hb hP ⟨hS, rfl⟩ hl.1 (kX7_thrown hTm hc) hTm cl_7 wd_1182 mo_X7_thrown wd_1183 wd_1184 ⟨Nat.le_of_ble_eq_true rfl, Nat.le_of_ble_eq_true rfl⟩ hRc rfl (rest := []) rfl (Nat.le_of_ble_eq_true rfl) dL_law_250 (fun H locs hP hS => ?_)
  replace hS := hS.1
  refine W.widen (k := cl + 8) (n := sl + 48) (Nat.le_refl _) (Nat.le_refl _) ?_
  refine lv_iload C.1 C.2.1 dL_law_253 (lv_at hl 1 rfl) ?_
  refine b_ieq (tgt := 260) C dL_law_255 (by decide) h (fun h => ?_) (fun h => ?_)
  · refine lv_iload C.1 C.2.1 dL_law_260 (lv_at hl 1 rfl) ?_
    refine b_ne (tgt := 277) C dL_law_262 (by decide) h (fun h => ?_) (fun h => ?_)
    · refine lv_aload_n C.1 C.2.1 dL_law_265 rfl (lv_at hl 5 rfl) ?_
      refine lv_iconst (v := 0) C.1 C.2.1 dL_law_266 (by decide) ?_
      refine r_aL C hK hP dL_law_267 h (fun y10 h => ?_)
      refine lv_iload C.1 C.2.1 dL_law_268 (lv_at hl 0 rfl) ?_
      refine lv_i2l C.1 C.2.1 dL_law_270 rfl ?_
      refine b_lcmp (tgt := 277) C dL_law_271 dL_law_272 (by decide) h (fun h => ?_) (fun h => ?_)
      · refine lv_goto (tgt := 2033) C.1 C.2.1 dL_law_277 (by decide) ?_
        have e := Option.some.inj h
        exact hk r8.2 _ _ _ e.symm hP hS (lv_sub hl [2, 3, 4, 5, 6] rfl)
      · exact absurd (hno 0 (Option.some.inj h).symm) (by decide)
    · refine lv_goto (tgt := 2033) C.1 C.2.1 dL_law_277 (by decide) ?_
      have e := Option.some.inj h
      exact hk r8.2 _ _ _ e.symm hP hS (lv_sub hl [2, 3, 4, 5, 6] rfl)
  · exact absurd (hno 0 (Option.some.inj h).symm) (by decide)
noncomputable def fL_c1 (n : Nat) (Sh : Sp) (xs : Nat → Int32) (L x mm out : Nat) (i : Int32) (M : Mm) : Option (Mm ⊕ Int32) :=
  scr xs L (i + 1) fun t1 =>
  (fL_remove n Sh M x t1 out).bind fun r2 =>
  scr xs L (i + 1) fun t3 =>
  (fX7_remove n Sh r2.2 mm t3).bind fun r4 =>
  (fX7_thrown n Sh r4.2 mm).bind fun r5 =>
  if r5 = r2.1 then
    if r2.1 = 0 then
      aL Sh r4.2 out 0 fun y6 =>
      if (y6 : Int64) = (Int32.toInt64 r4.1) then
        some (Sum.inl r4.2)
      else
        some (Sum.inr 0)
    else
      some (Sum.inl r4.2)
  else
    some (Sum.inr 0)
set_option maxRecDepth 100000 in
set_option maxHeartbeats 4000000 in
theorem kL_c1 (C : CallFix p m c cL_law 7 s args GW RL) (hfl : l.stackTraces = false) (hK : KK G s) (hX : XE G s s.heap) (hN : NC s) (hb : G.1 ≤ s.heap.size) (hXs : va_X b L xs s s.heap) (hbl : b < s.heap.size) (hbA : ¬ AA G b) (hTx : Sh x = some (.inl 6)) (hTm : Sh mm = some (.inl 7)) {z : Mm ⊕ Int32} (h : fL_c1 n Sh xs L x mm out i M = some z) (hRc : cl + 8 ≤ room_1.cells ∧ sl + 48 ≤ room_1.slots) (hP : HM G Sh M H) (hS : va_S (AA G) s.heap H locs) (hl : lv_has ls 7 [(0, .ref b), (1, .ref x), (2, .ref mm), (3, .ref out), (4, .int i)]) (hno : ∀ q : Int32, z = .inr q → q = 1)
    (hk : ∀ (M1 : Mm) (H : Heap) (locs : List Loc) (ls : Array Slot), z = .inl M1 → HM G Sh M1 H → va_S (AA G) s.heap H locs → lv_has ls 7 [(0, .ref b), (1, .ref x), (2, .ref mm), (3, .ref out), (4, .int i)] → W p l e room_1 s m args below meth c H locs (cl + 8) (sl + 48) Q (F0 m 2033 ls [])) :
    W p l e room_1 s m args below meth c H locs cl sl Q (F0 m 280 ls []) := by
  have hR0 : cl + 0 ≤ room_1.cells ∧ sl + 0 ≤ room_1.slots := ⟨Nat.le_trans (Nat.le_add_right cl 8) hRc.1, Nat.le_trans (Nat.le_add_right sl 48) hRc.2⟩
  unfold fL_c1 at h
  refine lv_aload_n C.1 C.2.1 dL_law_280 rfl (lv_at hl 1 rfl) ?_
  refine lv_aload_n C.1 C.2.1 dL_law_281 rfl (lv_at hl 0 rfl) ?_
  refine lv_iload C.1 C.2.1 dL_law_282 (lv_at hl 4 rfl) ?_
  refine lv_iconst (v := 1) C.1 C.2.1 dL_law_284 (by decide) ?_
  refine lv_iadd C.1 C.2.1 dL_law_285 ?_
  refine r_scr C hXs hbl hbA hS dL_law_286 h (fun t1 h => ?_)
  refine lv_aload_n C.1 C.2.1 dL_law_287 rfl (lv_at hl 3 rfl) ?_
  obtain ⟨r2, hc, h⟩ := bS h
  refine r_W (n := 3) C hK hX hN hb hP hS hl.1 (kL_remove hfl hc) wd_786 wd_788 wd_74 ⟨by decide +kernel, by decide +kernel, by decide +kernel⟩ wd_787 ⟨Nat.le_of_ble_eq_true rfl, Nat.le_of_ble_eq_true rfl⟩ (k1 := cl + 8) (k2 := sl + 48) ⟨Nat.add_le_add_left (Nat.le_of_ble_eq_true rfl) _, Nat.add_le_add_left (Nat.le_of_ble_eq_true rfl) _⟩ hRc rfl (rest := []) rfl (Nat.le_of_ble_eq_true rfl) dL_law_288 (fun H locs hP hS => ?_)
  refine lv_istore (lv' := [(5, .int r2.1), (0, .ref b), (1, .ref x), (2, .ref mm), (3, .ref out), (4, .int i)]) C.1 C.2.1 dL_law_291 hl (by decide) rfl (fun ls hl => ?_)
  refine lv_aload_n C.1 C.2.1 dL_law_293 rfl (lv_at hl 3 rfl) ?_
  refine lv_aload_n C.1 C.2.1 dL_law_294 rfl (lv_at hl 1 rfl) ?_
  refine lv_iload C.1 C.2.1 dL_law_295 (lv_at hl 5 rfl) ?_
  refine lv_iconst (v := 1) C.1 C.2.1 dL_law_297 (by decide) ?_
  refine lv_iadd C.1 C.2.1 dL_law_298 ?_
  refine r_scr C hXs hbl hbA hS dL_law_299 h (fun t3 h => ?_)
  obtain ⟨r4, hc, h⟩ := bS h
  refine r_V1 C hK hX hb hP ⟨hS, rfl⟩ hl.1 (kX7_remove hTm hc) hTm cl_7 wd_1221 mo_X7_remove wd_1222 wd_1223 ⟨Nat.le_of_ble_eq_true rfl, Nat.le_of_ble_eq_true rfl⟩ hRc rfl (rest := []) rfl (Nat.le_of_ble_eq_true rfl) dL_law_300 (fun H locs hP hS => ?_)
  replace hS := hS.1
  refine W.widen (k := cl + 8) (n := sl + 48) (Nat.le_refl _) (Nat.le_refl _) ?_
  refine lv_istore (lv' := [(6, .int r4.1), (5, .int r2.1), (0, .ref b), (1, .ref x), (2, .ref mm), (3, .ref out), (4, .int i)]) C.1 C.2.1 dL_law_303 hl (by decide) rfl (fun ls hl => ?_)
  refine lv_aload_n C.1 C.2.1 dL_law_305 rfl (lv_at hl 4 rfl) ?_
  obtain ⟨r5, hc, h⟩ := bS h
  refine r_V1 C hK hX hb hP ⟨hS, rfl⟩ hl.1 (kX7_thrown hTm hc) hTm cl_7 wd_1182 mo_X7_thrown wd_1183 wd_1184 ⟨Nat.le_of_ble_eq_true rfl, Nat.le_of_ble_eq_true rfl⟩ hRc rfl (rest := []) rfl (Nat.le_of_ble_eq_true rfl) dL_law_306 (fun H locs hP hS => ?_)
  replace hS := hS.1
  refine W.widen (k := cl + 8) (n := sl + 48) (Nat.le_refl _) (Nat.le_refl _) ?_
  refine lv_iload C.1 C.2.1 dL_law_309 (lv_at hl 1 rfl) ?_
  refine b_ieq (tgt := 316) C dL_law_311 (by decide) h (fun h => ?_) (fun h => ?_)
  · refine lv_iload C.1 C.2.1 dL_law_316 (lv_at hl 1 rfl) ?_
    refine b_ne (tgt := 333) C dL_law_318 (by decide) h (fun h => ?_) (fun h => ?_)
    · refine lv_aload_n C.1 C.2.1 dL_law_321 rfl (lv_at hl 5 rfl) ?_
      refine lv_iconst (v := 0) C.1 C.2.1 dL_law_322 (by decide) ?_
      refine r_aL C hK hP dL_law_323 h (fun y6 h => ?_)
      refine lv_iload C.1 C.2.1 dL_law_324 (lv_at hl 0 rfl) ?_
      refine lv_i2l C.1 C.2.1 dL_law_326 rfl ?_
      refine b_lcmp (tgt := 333) C dL_law_327 dL_law_328 (by decide) h (fun h => ?_) (fun h => ?_)
      · refine lv_goto (tgt := 2033) C.1 C.2.1 dL_law_333 (by decide) ?_
        have e := Option.some.inj h
        exact hk r4.2 _ _ _ e.symm hP hS (lv_sub hl [2, 3, 4, 5, 6] rfl)
      · exact absurd (hno 0 (Option.some.inj h).symm) (by decide)
    · refine lv_goto (tgt := 2033) C.1 C.2.1 dL_law_333 (by decide) ?_
      have e := Option.some.inj h
      exact hk r4.2 _ _ _ e.symm hP hS (lv_sub hl [2, 3, 4, 5, 6] rfl)
  · exact absurd (hno 0 (Option.some.inj h).symm) (by decide)
noncomputable def fL_c2 (n : Nat) (Sh : Sp) (xs : Nat → Int32) (L x mm out : Nat) (i : Int32) (M : Mm) : Option (Mm ⊕ Int32) :=
  scr xs L (i + 1) fun t1 =>
  scr xs L (i + 2) fun t2 =>
  scr xs L (i + 3) fun t3 =>
  (fL_move n Sh M x t1 t2 t3 out).bind fun r4 =>
  scr xs L (i + 1) fun t5 =>
  scr xs L (i + 2) fun t6 =>
  scr xs L (i + 3) fun t7 =>
  (fX7_move n Sh r4.2 mm t5 t6 t7).bind fun r8 =>
  (fX7_thrown n Sh r8.2 mm).bind fun r9 =>
  if r9 = r4.1 then
    if r4.1 = 0 then
      aL Sh r8.2 out 0 fun y10 =>
      if (y10 : Int64) = (Int32.toInt64 r8.1) then
        some (Sum.inl r8.2)
      else
        some (Sum.inr 0)
    else
      some (Sum.inl r8.2)
  else
    some (Sum.inr 0)
set_option maxRecDepth 100000 in
set_option maxHeartbeats 4000000 in
theorem kL_c2 (C : CallFix p m c cL_law 7 s args GW RL) (hfl : l.stackTraces = false) (hK : KK G s) (hX : XE G s s.heap) (hN : NC s) (hb : G.1 ≤ s.heap.size) (hXs : va_X b L xs s s.heap) (hbl : b < s.heap.size) (hbA : ¬ AA G b) (hTx : Sh x = some (.inl 6)) (hTm : Sh mm = some (.inl 7)) {z : Mm ⊕ Int32} (h : fL_c2 n Sh xs L x mm out i M = some z) (hRc : cl + 8 ≤ room_1.cells ∧ sl + 48 ≤ room_1.slots) (hP : HM G Sh M H) (hS : va_S (AA G) s.heap H locs) (hl : lv_has ls 7 [(0, .ref b), (1, .ref x), (2, .ref mm), (3, .ref out), (4, .int i)]) (hno : ∀ q : Int32, z = .inr q → q = 1)
    (hk : ∀ (M1 : Mm) (H : Heap) (locs : List Loc) (ls : Array Slot), z = .inl M1 → HM G Sh M1 H → va_S (AA G) s.heap H locs → lv_has ls 7 [(0, .ref b), (1, .ref x), (2, .ref mm), (3, .ref out), (4, .int i)] → W p l e room_1 s m args below meth c H locs (cl + 8) (sl + 48) Q (F0 m 2033 ls [])) :
    W p l e room_1 s m args below meth c H locs cl sl Q (F0 m 336 ls []) := by
  have hR0 : cl + 0 ≤ room_1.cells ∧ sl + 0 ≤ room_1.slots := ⟨Nat.le_trans (Nat.le_add_right cl 8) hRc.1, Nat.le_trans (Nat.le_add_right sl 48) hRc.2⟩
  unfold fL_c2 at h
  refine lv_aload_n C.1 C.2.1 dL_law_336 rfl (lv_at hl 1 rfl) ?_
  refine lv_aload_n C.1 C.2.1 dL_law_337 rfl (lv_at hl 0 rfl) ?_
  refine lv_iload C.1 C.2.1 dL_law_338 (lv_at hl 4 rfl) ?_
  refine lv_iconst (v := 1) C.1 C.2.1 dL_law_340 (by decide) ?_
  refine lv_iadd C.1 C.2.1 dL_law_341 ?_
  refine r_scr C hXs hbl hbA hS dL_law_342 h (fun t1 h => ?_)
  refine lv_aload_n C.1 C.2.1 dL_law_343 rfl (lv_at hl 0 rfl) ?_
  refine lv_iload C.1 C.2.1 dL_law_344 (lv_at hl 4 rfl) ?_
  refine lv_iconst (v := 2) C.1 C.2.1 dL_law_346 (by decide) ?_
  refine lv_iadd C.1 C.2.1 dL_law_347 ?_
  refine r_scr C hXs hbl hbA hS dL_law_348 h (fun t2 h => ?_)
  refine lv_aload_n C.1 C.2.1 dL_law_349 rfl (lv_at hl 0 rfl) ?_
  refine lv_iload C.1 C.2.1 dL_law_350 (lv_at hl 4 rfl) ?_
  refine lv_iconst (v := 3) C.1 C.2.1 dL_law_352 (by decide) ?_
  refine lv_iadd C.1 C.2.1 dL_law_353 ?_
  refine r_scr C hXs hbl hbA hS dL_law_354 h (fun t3 h => ?_)
  refine lv_aload_n C.1 C.2.1 dL_law_355 rfl (lv_at hl 3 rfl) ?_
  obtain ⟨r4, hc, h⟩ := bS h
  refine r_W (n := 5) C hK hX hN hb hP hS hl.1 (kL_move hfl hc) wd_821 wd_823 wd_74 ⟨by decide +kernel, by decide +kernel, by decide +kernel⟩ wd_822 ⟨Nat.le_of_ble_eq_true rfl, Nat.le_of_ble_eq_true rfl⟩ (k1 := cl + 8) (k2 := sl + 48) ⟨Nat.add_le_add_left (Nat.le_of_ble_eq_true rfl) _, Nat.add_le_add_left (Nat.le_of_ble_eq_true rfl) _⟩ hRc rfl (rest := []) rfl (Nat.le_of_ble_eq_true rfl) dL_law_356 (fun H locs hP hS => ?_)
  refine lv_istore (lv' := [(5, .int r4.1), (0, .ref b), (1, .ref x), (2, .ref mm), (3, .ref out), (4, .int i)]) C.1 C.2.1 dL_law_359 hl (by decide) rfl (fun ls hl => ?_)
  refine lv_aload_n C.1 C.2.1 dL_law_361 rfl (lv_at hl 3 rfl) ?_
  refine lv_aload_n C.1 C.2.1 dL_law_362 rfl (lv_at hl 1 rfl) ?_
  refine lv_iload C.1 C.2.1 dL_law_363 (lv_at hl 5 rfl) ?_
  refine lv_iconst (v := 1) C.1 C.2.1 dL_law_365 (by decide) ?_
  refine lv_iadd C.1 C.2.1 dL_law_366 ?_
  refine r_scr C hXs hbl hbA hS dL_law_367 h (fun t5 h => ?_)
  refine lv_aload_n C.1 C.2.1 dL_law_368 rfl (lv_at hl 1 rfl) ?_
  refine lv_iload C.1 C.2.1 dL_law_369 (lv_at hl 5 rfl) ?_
  refine lv_iconst (v := 2) C.1 C.2.1 dL_law_371 (by decide) ?_
  refine lv_iadd C.1 C.2.1 dL_law_372 ?_
  refine r_scr C hXs hbl hbA hS dL_law_373 h (fun t6 h => ?_)
  refine lv_aload_n C.1 C.2.1 dL_law_374 rfl (lv_at hl 1 rfl) ?_
  refine lv_iload C.1 C.2.1 dL_law_375 (lv_at hl 5 rfl) ?_
  refine lv_iconst (v := 3) C.1 C.2.1 dL_law_377 (by decide) ?_
  refine lv_iadd C.1 C.2.1 dL_law_378 ?_
  refine r_scr C hXs hbl hbA hS dL_law_379 h (fun t7 h => ?_)
  obtain ⟨r8, hc, h⟩ := bS h
  refine r_V1 C hK hX hb hP ⟨hS, rfl⟩ hl.1 (kX7_move hTm hc) hTm cl_7 wd_1244 mo_X7_move wd_1245 wd_1246 ⟨Nat.le_of_ble_eq_true rfl, Nat.le_of_ble_eq_true rfl⟩ hRc rfl (rest := []) rfl (Nat.le_of_ble_eq_true rfl) dL_law_380 (fun H locs hP hS => ?_)
  replace hS := hS.1
  refine W.widen (k := cl + 8) (n := sl + 48) (Nat.le_refl _) (Nat.le_refl _) ?_
  refine lv_istore (lv' := [(6, .int r8.1), (5, .int r4.1), (0, .ref b), (1, .ref x), (2, .ref mm), (3, .ref out), (4, .int i)]) C.1 C.2.1 dL_law_383 hl (by decide) rfl (fun ls hl => ?_)
  refine lv_aload_n C.1 C.2.1 dL_law_385 rfl (lv_at hl 4 rfl) ?_
  obtain ⟨r9, hc, h⟩ := bS h
  refine r_V1 C hK hX hb hP ⟨hS, rfl⟩ hl.1 (kX7_thrown hTm hc) hTm cl_7 wd_1182 mo_X7_thrown wd_1183 wd_1184 ⟨Nat.le_of_ble_eq_true rfl, Nat.le_of_ble_eq_true rfl⟩ hRc rfl (rest := []) rfl (Nat.le_of_ble_eq_true rfl) dL_law_386 (fun H locs hP hS => ?_)
  replace hS := hS.1
  refine W.widen (k := cl + 8) (n := sl + 48) (Nat.le_refl _) (Nat.le_refl _) ?_
  refine lv_iload C.1 C.2.1 dL_law_389 (lv_at hl 1 rfl) ?_
  refine b_ieq (tgt := 396) C dL_law_391 (by decide) h (fun h => ?_) (fun h => ?_)
  · refine lv_iload C.1 C.2.1 dL_law_396 (lv_at hl 1 rfl) ?_
    refine b_ne (tgt := 413) C dL_law_398 (by decide) h (fun h => ?_) (fun h => ?_)
    · refine lv_aload_n C.1 C.2.1 dL_law_401 rfl (lv_at hl 5 rfl) ?_
      refine lv_iconst (v := 0) C.1 C.2.1 dL_law_402 (by decide) ?_
      refine r_aL C hK hP dL_law_403 h (fun y10 h => ?_)
      refine lv_iload C.1 C.2.1 dL_law_404 (lv_at hl 0 rfl) ?_
      refine lv_i2l C.1 C.2.1 dL_law_406 rfl ?_
      refine b_lcmp (tgt := 413) C dL_law_407 dL_law_408 (by decide) h (fun h => ?_) (fun h => ?_)
      · refine lv_goto (tgt := 2033) C.1 C.2.1 dL_law_413 (by decide) ?_
        have e := Option.some.inj h
        exact hk r8.2 _ _ _ e.symm hP hS (lv_sub hl [2, 3, 4, 5, 6] rfl)
      · exact absurd (hno 0 (Option.some.inj h).symm) (by decide)
    · refine lv_goto (tgt := 2033) C.1 C.2.1 dL_law_413 (by decide) ?_
      have e := Option.some.inj h
      exact hk r8.2 _ _ _ e.symm hP hS (lv_sub hl [2, 3, 4, 5, 6] rfl)
  · exact absurd (hno 0 (Option.some.inj h).symm) (by decide)
noncomputable def fL_c3 (n : Nat) (Sh : Sp) (xs : Nat → Int32) (L x mm out : Nat) (i : Int32) (M : Mm) : Option (Mm ⊕ Int32) :=
  (fX6_nodes n Sh M x).bind fun r1 =>
  (fX7_nodes n Sh M mm).bind fun r2 =>
  if r1 = r2.1 then
    some (Sum.inl r2.2)
  else
    some (Sum.inr 0)
set_option maxRecDepth 100000 in
set_option maxHeartbeats 4000000 in
theorem kL_c3 (C : CallFix p m c cL_law 7 s args GW RL) (hfl : l.stackTraces = false) (hK : KK G s) (hX : XE G s s.heap) (hN : NC s) (hb : G.1 ≤ s.heap.size) (hXs : va_X b L xs s s.heap) (hbl : b < s.heap.size) (hbA : ¬ AA G b) (hTx : Sh x = some (.inl 6)) (hTm : Sh mm = some (.inl 7)) {z : Mm ⊕ Int32} (h : fL_c3 n Sh xs L x mm out i M = some z) (hRc : cl + 8 ≤ room_1.cells ∧ sl + 48 ≤ room_1.slots) (hP : HM G Sh M H) (hS : va_S (AA G) s.heap H locs) (hl : lv_has ls 7 [(0, .ref b), (1, .ref x), (2, .ref mm), (3, .ref out), (4, .int i)]) (hno : ∀ q : Int32, z = .inr q → q = 1)
    (hk : ∀ (M1 : Mm) (H : Heap) (locs : List Loc) (ls : Array Slot), z = .inl M1 → HM G Sh M1 H → va_S (AA G) s.heap H locs → lv_has ls 7 [(0, .ref b), (1, .ref x), (2, .ref mm), (3, .ref out), (4, .int i)] → W p l e room_1 s m args below meth c H locs (cl + 8) (sl + 48) Q (F0 m 2033 ls [])) :
    W p l e room_1 s m args below meth c H locs cl sl Q (F0 m 416 ls []) := by
  have hR0 : cl + 0 ≤ room_1.cells ∧ sl + 0 ≤ room_1.slots := ⟨Nat.le_trans (Nat.le_add_right cl 8) hRc.1, Nat.le_trans (Nat.le_add_right sl 48) hRc.2⟩
  unfold fL_c3 at h
  refine lv_aload_n C.1 C.2.1 dL_law_416 rfl (lv_at hl 1 rfl) ?_
  obtain ⟨r1, hc, h⟩ := bS h
  refine r_V1 C hK hX hb hP ⟨hS, rfl⟩ hl.1 (kX6_nodes hTx hc) hTx cl_6 wd_289 mo_X6_nodes wd_290 wd_291 ⟨Nat.le_of_ble_eq_true rfl, Nat.le_of_ble_eq_true rfl⟩ hR0 rfl (rest := []) rfl (Nat.le_of_ble_eq_true rfl) dL_law_417 (fun H locs hP hS => ?_)
  replace hS := hS.1
  refine W.widen (k := cl) (n := sl) (Nat.le_refl _) (Nat.le_refl _) ?_
  refine lv_aload_n C.1 C.2.1 dL_law_420 rfl (lv_at hl 2 rfl) ?_
  obtain ⟨r2, hc, h⟩ := bS h
  refine r_V1 C hK hX hb hP ⟨hS, rfl⟩ hl.1 (kX7_nodes hTm hc) hTm cl_7 wd_1248 mo_X7_nodes wd_1249 wd_1250 ⟨Nat.le_of_ble_eq_true rfl, Nat.le_of_ble_eq_true rfl⟩ hR0 rfl (rest := [.int r1]) rfl (Nat.le_of_ble_eq_true rfl) dL_law_421 (fun H locs hP hS => ?_)
  replace hS := hS.1
  refine W.widen (k := cl) (n := sl) (Nat.le_refl _) (Nat.le_refl _) ?_
  refine b_ieq (tgt := 2033) C dL_law_424 (by decide) h (fun h => ?_) (fun h => ?_)
  · have e := Option.some.inj h
    refine W.widen (k := cl + 8) (n := sl + 48) (Nat.le_add_right _ _) (Nat.le_add_right _ _) ?_
    exact hk r2.2 _ _ _ e.symm hP hS (lv_sub hl [0, 1, 2, 3, 4] rfl)
  · exact absurd (hno 0 (Option.some.inj h).symm) (by decide)
noncomputable def fL_c4 (n : Nat) (Sh : Sp) (xs : Nat → Int32) (L x mm out : Nat) (i : Int32) (M : Mm) : Option (Mm ⊕ Int32) :=
  scr xs L (i + 1) fun t1 =>
  scr xs L (i + 2) fun t2 =>
  (fL_info n Sh M x t1 t2 out).bind fun r3 =>
  scr xs L (i + 1) fun t4 =>
  scr xs L (i + 2) fun t5 =>
  (fX7_info n Sh r3.2 mm t4 t5).bind fun r6 =>
  (fX7_thrown n Sh r6.2 mm).bind fun r7 =>
  if r7 = r3.1 then
    if r3.1 = 0 then
      aL Sh r6.2 out 0 fun y8 =>
      if (y8 : Int64) = (Int32.toInt64 r6.1) then
        some (Sum.inl r6.2)
      else
        some (Sum.inr 0)
    else
      some (Sum.inl r6.2)
  else
    some (Sum.inr 0)
set_option maxRecDepth 100000 in
set_option maxHeartbeats 4000000 in
theorem kL_c4 (C : CallFix p m c cL_law 7 s args GW RL) (hfl : l.stackTraces = false) (hK : KK G s) (hX : XE G s s.heap) (hN : NC s) (hb : G.1 ≤ s.heap.size) (hXs : va_X b L xs s s.heap) (hbl : b < s.heap.size) (hbA : ¬ AA G b) (hTx : Sh x = some (.inl 6)) (hTm : Sh mm = some (.inl 7)) {z : Mm ⊕ Int32} (h : fL_c4 n Sh xs L x mm out i M = some z) (hRc : cl + 8 ≤ room_1.cells ∧ sl + 48 ≤ room_1.slots) (hP : HM G Sh M H) (hS : va_S (AA G) s.heap H locs) (hl : lv_has ls 7 [(0, .ref b), (1, .ref x), (2, .ref mm), (3, .ref out), (4, .int i)]) (hno : ∀ q : Int32, z = .inr q → q = 1)
    (hk : ∀ (M1 : Mm) (H : Heap) (locs : List Loc) (ls : Array Slot), z = .inl M1 → HM G Sh M1 H → va_S (AA G) s.heap H locs → lv_has ls 7 [(0, .ref b), (1, .ref x), (2, .ref mm), (3, .ref out), (4, .int i)] → W p l e room_1 s m args below meth c H locs (cl + 8) (sl + 48) Q (F0 m 2033 ls [])) :
    W p l e room_1 s m args below meth c H locs cl sl Q (F0 m 429 ls []) := by
  have hR0 : cl + 0 ≤ room_1.cells ∧ sl + 0 ≤ room_1.slots := ⟨Nat.le_trans (Nat.le_add_right cl 8) hRc.1, Nat.le_trans (Nat.le_add_right sl 48) hRc.2⟩
  unfold fL_c4 at h
  refine lv_aload_n C.1 C.2.1 dL_law_429 rfl (lv_at hl 1 rfl) ?_
  refine lv_aload_n C.1 C.2.1 dL_law_430 rfl (lv_at hl 0 rfl) ?_
  refine lv_iload C.1 C.2.1 dL_law_431 (lv_at hl 4 rfl) ?_
  refine lv_iconst (v := 1) C.1 C.2.1 dL_law_433 (by decide) ?_
  refine lv_iadd C.1 C.2.1 dL_law_434 ?_
  refine r_scr C hXs hbl hbA hS dL_law_435 h (fun t1 h => ?_)
  refine lv_aload_n C.1 C.2.1 dL_law_436 rfl (lv_at hl 0 rfl) ?_
  refine lv_iload C.1 C.2.1 dL_law_437 (lv_at hl 4 rfl) ?_
  refine lv_iconst (v := 2) C.1 C.2.1 dL_law_439 (by decide) ?_
  refine lv_iadd C.1 C.2.1 dL_law_440 ?_
  refine r_scr C hXs hbl hbA hS dL_law_441 h (fun t2 h => ?_)
  refine lv_aload_n C.1 C.2.1 dL_law_442 rfl (lv_at hl 3 rfl) ?_
  obtain ⟨r3, hc, h⟩ := bS h
  refine r_W (n := 4) C hK hX hN hb hP hS hl.1 (kL_info hfl hc) wd_832 wd_834 wd_74 ⟨by decide +kernel, by decide +kernel, by decide +kernel⟩ wd_833 ⟨Nat.le_of_ble_eq_true rfl, Nat.le_of_ble_eq_true rfl⟩ (k1 := cl + 8) (k2 := sl + 48) ⟨Nat.add_le_add_left (Nat.le_of_ble_eq_true rfl) _, Nat.add_le_add_left (Nat.le_of_ble_eq_true rfl) _⟩ hRc rfl (rest := []) rfl (Nat.le_of_ble_eq_true rfl) dL_law_443 (fun H locs hP hS => ?_)
  refine lv_istore (lv' := [(5, .int r3.1), (0, .ref b), (1, .ref x), (2, .ref mm), (3, .ref out), (4, .int i)]) C.1 C.2.1 dL_law_446 hl (by decide) rfl (fun ls hl => ?_)
  refine lv_aload_n C.1 C.2.1 dL_law_448 rfl (lv_at hl 3 rfl) ?_
  refine lv_aload_n C.1 C.2.1 dL_law_449 rfl (lv_at hl 1 rfl) ?_
  refine lv_iload C.1 C.2.1 dL_law_450 (lv_at hl 5 rfl) ?_
  refine lv_iconst (v := 1) C.1 C.2.1 dL_law_452 (by decide) ?_
  refine lv_iadd C.1 C.2.1 dL_law_453 ?_
  refine r_scr C hXs hbl hbA hS dL_law_454 h (fun t4 h => ?_)
  refine lv_aload_n C.1 C.2.1 dL_law_455 rfl (lv_at hl 1 rfl) ?_
  refine lv_iload C.1 C.2.1 dL_law_456 (lv_at hl 5 rfl) ?_
  refine lv_iconst (v := 2) C.1 C.2.1 dL_law_458 (by decide) ?_
  refine lv_iadd C.1 C.2.1 dL_law_459 ?_
  refine r_scr C hXs hbl hbA hS dL_law_460 h (fun t5 h => ?_)
  obtain ⟨r6, hc, h⟩ := bS h
  refine r_V1 C hK hX hb hP ⟨hS, rfl⟩ hl.1 (kX7_info hTm hc) hTm cl_7 wd_1252 mo_X7_info wd_1253 wd_1254 ⟨Nat.le_of_ble_eq_true rfl, Nat.le_of_ble_eq_true rfl⟩ hRc rfl (rest := []) rfl (Nat.le_of_ble_eq_true rfl) dL_law_461 (fun H locs hP hS => ?_)
  replace hS := hS.1
  refine W.widen (k := cl + 8) (n := sl + 48) (Nat.le_refl _) (Nat.le_refl _) ?_
  refine lv_istore (lv' := [(6, .int r6.1), (5, .int r3.1), (0, .ref b), (1, .ref x), (2, .ref mm), (3, .ref out), (4, .int i)]) C.1 C.2.1 dL_law_464 hl (by decide) rfl (fun ls hl => ?_)
  refine lv_aload_n C.1 C.2.1 dL_law_466 rfl (lv_at hl 4 rfl) ?_
  obtain ⟨r7, hc, h⟩ := bS h
  refine r_V1 C hK hX hb hP ⟨hS, rfl⟩ hl.1 (kX7_thrown hTm hc) hTm cl_7 wd_1182 mo_X7_thrown wd_1183 wd_1184 ⟨Nat.le_of_ble_eq_true rfl, Nat.le_of_ble_eq_true rfl⟩ hRc rfl (rest := []) rfl (Nat.le_of_ble_eq_true rfl) dL_law_467 (fun H locs hP hS => ?_)
  replace hS := hS.1
  refine W.widen (k := cl + 8) (n := sl + 48) (Nat.le_refl _) (Nat.le_refl _) ?_
  refine lv_iload C.1 C.2.1 dL_law_470 (lv_at hl 1 rfl) ?_
  refine b_ieq (tgt := 477) C dL_law_472 (by decide) h (fun h => ?_) (fun h => ?_)
  · refine lv_iload C.1 C.2.1 dL_law_477 (lv_at hl 1 rfl) ?_
    refine b_ne (tgt := 494) C dL_law_479 (by decide) h (fun h => ?_) (fun h => ?_)
    · refine lv_aload_n C.1 C.2.1 dL_law_482 rfl (lv_at hl 5 rfl) ?_
      refine lv_iconst (v := 0) C.1 C.2.1 dL_law_483 (by decide) ?_
      refine r_aL C hK hP dL_law_484 h (fun y8 h => ?_)
      refine lv_iload C.1 C.2.1 dL_law_485 (lv_at hl 0 rfl) ?_
      refine lv_i2l C.1 C.2.1 dL_law_487 rfl ?_
      refine b_lcmp (tgt := 494) C dL_law_488 dL_law_489 (by decide) h (fun h => ?_) (fun h => ?_)
      · refine lv_goto (tgt := 2033) C.1 C.2.1 dL_law_494 (by decide) ?_
        have e := Option.some.inj h
        exact hk r6.2 _ _ _ e.symm hP hS (lv_sub hl [2, 3, 4, 5, 6] rfl)
      · exact absurd (hno 0 (Option.some.inj h).symm) (by decide)
    · refine lv_goto (tgt := 2033) C.1 C.2.1 dL_law_494 (by decide) ?_
      have e := Option.some.inj h
      exact hk r6.2 _ _ _ e.symm hP hS (lv_sub hl [2, 3, 4, 5, 6] rfl)
  · exact absurd (hno 0 (Option.some.inj h).symm) (by decide)
noncomputable def fL_c5 (n : Nat) (Sh : Sp) (xs : Nat → Int32) (L x mm out : Nat) (i : Int32) (M : Mm) : Option (Mm ⊕ Int32) :=
  scr xs L (i + 1) fun t1 =>
  scr xs L (i + 2) fun t2 =>
  (fL_child n Sh M x t1 t2 out).bind fun r3 =>
  scr xs L (i + 1) fun t4 =>
  scr xs L (i + 2) fun t5 =>
  (fX7_child n Sh r3.2 mm t4 t5).bind fun r6 =>
  (fX7_thrown n Sh r6.2 mm).bind fun r7 =>
  if r7 = r3.1 then
    if r3.1 = 0 then
      aL Sh r6.2 out 0 fun y8 =>
      if (y8 : Int64) = (Int32.toInt64 r6.1) then
        some (Sum.inl r6.2)
      else
        some (Sum.inr 0)
    else
      some (Sum.inl r6.2)
  else
    some (Sum.inr 0)
set_option maxRecDepth 100000 in
set_option maxHeartbeats 4000000 in
theorem kL_c5 (C : CallFix p m c cL_law 7 s args GW RL) (hfl : l.stackTraces = false) (hK : KK G s) (hX : XE G s s.heap) (hN : NC s) (hb : G.1 ≤ s.heap.size) (hXs : va_X b L xs s s.heap) (hbl : b < s.heap.size) (hbA : ¬ AA G b) (hTx : Sh x = some (.inl 6)) (hTm : Sh mm = some (.inl 7)) {z : Mm ⊕ Int32} (h : fL_c5 n Sh xs L x mm out i M = some z) (hRc : cl + 8 ≤ room_1.cells ∧ sl + 48 ≤ room_1.slots) (hP : HM G Sh M H) (hS : va_S (AA G) s.heap H locs) (hl : lv_has ls 7 [(0, .ref b), (1, .ref x), (2, .ref mm), (3, .ref out), (4, .int i)]) (hno : ∀ q : Int32, z = .inr q → q = 1)
    (hk : ∀ (M1 : Mm) (H : Heap) (locs : List Loc) (ls : Array Slot), z = .inl M1 → HM G Sh M1 H → va_S (AA G) s.heap H locs → lv_has ls 7 [(0, .ref b), (1, .ref x), (2, .ref mm), (3, .ref out), (4, .int i)] → W p l e room_1 s m args below meth c H locs (cl + 8) (sl + 48) Q (F0 m 2033 ls [])) :
    W p l e room_1 s m args below meth c H locs cl sl Q (F0 m 497 ls []) := by
  have hR0 : cl + 0 ≤ room_1.cells ∧ sl + 0 ≤ room_1.slots := ⟨Nat.le_trans (Nat.le_add_right cl 8) hRc.1, Nat.le_trans (Nat.le_add_right sl 48) hRc.2⟩
  unfold fL_c5 at h
  refine lv_aload_n C.1 C.2.1 dL_law_497 rfl (lv_at hl 1 rfl) ?_
  refine lv_aload_n C.1 C.2.1 dL_law_498 rfl (lv_at hl 0 rfl) ?_
  refine lv_iload C.1 C.2.1 dL_law_499 (lv_at hl 4 rfl) ?_
  refine lv_iconst (v := 1) C.1 C.2.1 dL_law_501 (by decide) ?_
  refine lv_iadd C.1 C.2.1 dL_law_502 ?_
  refine r_scr C hXs hbl hbA hS dL_law_503 h (fun t1 h => ?_)
  refine lv_aload_n C.1 C.2.1 dL_law_504 rfl (lv_at hl 0 rfl) ?_
  refine lv_iload C.1 C.2.1 dL_law_505 (lv_at hl 4 rfl) ?_
  refine lv_iconst (v := 2) C.1 C.2.1 dL_law_507 (by decide) ?_
  refine lv_iadd C.1 C.2.1 dL_law_508 ?_
  refine r_scr C hXs hbl hbA hS dL_law_509 h (fun t2 h => ?_)
  refine lv_aload_n C.1 C.2.1 dL_law_510 rfl (lv_at hl 3 rfl) ?_
  obtain ⟨r3, hc, h⟩ := bS h
  refine r_W (n := 4) C hK hX hN hb hP hS hl.1 (kL_child hfl hc) wd_843 wd_845 wd_74 ⟨by decide +kernel, by decide +kernel, by decide +kernel⟩ wd_844 ⟨Nat.le_of_ble_eq_true rfl, Nat.le_of_ble_eq_true rfl⟩ (k1 := cl + 8) (k2 := sl + 48) ⟨Nat.add_le_add_left (Nat.le_of_ble_eq_true rfl) _, Nat.add_le_add_left (Nat.le_of_ble_eq_true rfl) _⟩ hRc rfl (rest := []) rfl (Nat.le_of_ble_eq_true rfl) dL_law_511 (fun H locs hP hS => ?_)
  refine lv_istore (lv' := [(5, .int r3.1), (0, .ref b), (1, .ref x), (2, .ref mm), (3, .ref out), (4, .int i)]) C.1 C.2.1 dL_law_514 hl (by decide) rfl (fun ls hl => ?_)
  refine lv_aload_n C.1 C.2.1 dL_law_516 rfl (lv_at hl 3 rfl) ?_
  refine lv_aload_n C.1 C.2.1 dL_law_517 rfl (lv_at hl 1 rfl) ?_
  refine lv_iload C.1 C.2.1 dL_law_518 (lv_at hl 5 rfl) ?_
  refine lv_iconst (v := 1) C.1 C.2.1 dL_law_520 (by decide) ?_
  refine lv_iadd C.1 C.2.1 dL_law_521 ?_
  refine r_scr C hXs hbl hbA hS dL_law_522 h (fun t4 h => ?_)
  refine lv_aload_n C.1 C.2.1 dL_law_523 rfl (lv_at hl 1 rfl) ?_
  refine lv_iload C.1 C.2.1 dL_law_524 (lv_at hl 5 rfl) ?_
  refine lv_iconst (v := 2) C.1 C.2.1 dL_law_526 (by decide) ?_
  refine lv_iadd C.1 C.2.1 dL_law_527 ?_
  refine r_scr C hXs hbl hbA hS dL_law_528 h (fun t5 h => ?_)
  obtain ⟨r6, hc, h⟩ := bS h
  refine r_V1 C hK hX hb hP ⟨hS, rfl⟩ hl.1 (kX7_child hTm hc) hTm cl_7 wd_1268 mo_X7_child wd_1269 wd_1270 ⟨Nat.le_of_ble_eq_true rfl, Nat.le_of_ble_eq_true rfl⟩ hRc rfl (rest := []) rfl (Nat.le_of_ble_eq_true rfl) dL_law_529 (fun H locs hP hS => ?_)
  replace hS := hS.1
  refine W.widen (k := cl + 8) (n := sl + 48) (Nat.le_refl _) (Nat.le_refl _) ?_
  refine lv_istore (lv' := [(6, .int r6.1), (5, .int r3.1), (0, .ref b), (1, .ref x), (2, .ref mm), (3, .ref out), (4, .int i)]) C.1 C.2.1 dL_law_532 hl (by decide) rfl (fun ls hl => ?_)
  refine lv_aload_n C.1 C.2.1 dL_law_534 rfl (lv_at hl 4 rfl) ?_
  obtain ⟨r7, hc, h⟩ := bS h
  refine r_V1 C hK hX hb hP ⟨hS, rfl⟩ hl.1 (kX7_thrown hTm hc) hTm cl_7 wd_1182 mo_X7_thrown wd_1183 wd_1184 ⟨Nat.le_of_ble_eq_true rfl, Nat.le_of_ble_eq_true rfl⟩ hRc rfl (rest := []) rfl (Nat.le_of_ble_eq_true rfl) dL_law_535 (fun H locs hP hS => ?_)
  replace hS := hS.1
  refine W.widen (k := cl + 8) (n := sl + 48) (Nat.le_refl _) (Nat.le_refl _) ?_
  refine lv_iload C.1 C.2.1 dL_law_538 (lv_at hl 1 rfl) ?_
  refine b_ieq (tgt := 545) C dL_law_540 (by decide) h (fun h => ?_) (fun h => ?_)
  · refine lv_iload C.1 C.2.1 dL_law_545 (lv_at hl 1 rfl) ?_
    refine b_ne (tgt := 562) C dL_law_547 (by decide) h (fun h => ?_) (fun h => ?_)
    · refine lv_aload_n C.1 C.2.1 dL_law_550 rfl (lv_at hl 5 rfl) ?_
      refine lv_iconst (v := 0) C.1 C.2.1 dL_law_551 (by decide) ?_
      refine r_aL C hK hP dL_law_552 h (fun y8 h => ?_)
      refine lv_iload C.1 C.2.1 dL_law_553 (lv_at hl 0 rfl) ?_
      refine lv_i2l C.1 C.2.1 dL_law_555 rfl ?_
      refine b_lcmp (tgt := 562) C dL_law_556 dL_law_557 (by decide) h (fun h => ?_) (fun h => ?_)
      · refine lv_goto (tgt := 2033) C.1 C.2.1 dL_law_562 (by decide) ?_
        have e := Option.some.inj h
        exact hk r6.2 _ _ _ e.symm hP hS (lv_sub hl [2, 3, 4, 5, 6] rfl)
      · exact absurd (hno 0 (Option.some.inj h).symm) (by decide)
    · refine lv_goto (tgt := 2033) C.1 C.2.1 dL_law_562 (by decide) ?_
      have e := Option.some.inj h
      exact hk r6.2 _ _ _ e.symm hP hS (lv_sub hl [2, 3, 4, 5, 6] rfl)
  · exact absurd (hno 0 (Option.some.inj h).symm) (by decide)
noncomputable def fL_c6 (n : Nat) (Sh : Sp) (xs : Nat → Int32) (L x mm out : Nat) (i : Int32) (M : Mm) : Option (Mm ⊕ Int32) :=
  scr xs L (i + 1) fun t1 =>
  scr xs L (i + 2) fun t2 =>
  scr xs L (i + 3) fun t3 =>
  (fL_set n Sh M x t1 t2 t3 out).bind fun r4 =>
  scr xs L (i + 1) fun t5 =>
  scr xs L (i + 2) fun t6 =>
  scr xs L (i + 3) fun t7 =>
  (fX7_set n Sh r4.2 mm t5 t6 t7).bind fun r8 =>
  (fX7_thrown n Sh r8.2 mm).bind fun r9 =>
  if r9 = r4.1 then
    if r4.1 = 0 then
      aL Sh r8.2 out 0 fun y10 =>
      if (y10 : Int64) = (Int32.toInt64 r8.1) then
        some (Sum.inl r8.2)
      else
        some (Sum.inr 0)
    else
      some (Sum.inl r8.2)
  else
    some (Sum.inr 0)
set_option maxRecDepth 100000 in
set_option maxHeartbeats 4000000 in
theorem kL_c6 (C : CallFix p m c cL_law 7 s args GW RL) (hfl : l.stackTraces = false) (hK : KK G s) (hX : XE G s s.heap) (hN : NC s) (hb : G.1 ≤ s.heap.size) (hXs : va_X b L xs s s.heap) (hbl : b < s.heap.size) (hbA : ¬ AA G b) (hTx : Sh x = some (.inl 6)) (hTm : Sh mm = some (.inl 7)) {z : Mm ⊕ Int32} (h : fL_c6 n Sh xs L x mm out i M = some z) (hRc : cl + 8 ≤ room_1.cells ∧ sl + 48 ≤ room_1.slots) (hP : HM G Sh M H) (hS : va_S (AA G) s.heap H locs) (hl : lv_has ls 7 [(0, .ref b), (1, .ref x), (2, .ref mm), (3, .ref out), (4, .int i)]) (hno : ∀ q : Int32, z = .inr q → q = 1)
    (hk : ∀ (M1 : Mm) (H : Heap) (locs : List Loc) (ls : Array Slot), z = .inl M1 → HM G Sh M1 H → va_S (AA G) s.heap H locs → lv_has ls 7 [(0, .ref b), (1, .ref x), (2, .ref mm), (3, .ref out), (4, .int i)] → W p l e room_1 s m args below meth c H locs (cl + 8) (sl + 48) Q (F0 m 2033 ls [])) :
    W p l e room_1 s m args below meth c H locs cl sl Q (F0 m 565 ls []) := by
  have hR0 : cl + 0 ≤ room_1.cells ∧ sl + 0 ≤ room_1.slots := ⟨Nat.le_trans (Nat.le_add_right cl 8) hRc.1, Nat.le_trans (Nat.le_add_right sl 48) hRc.2⟩
  unfold fL_c6 at h
  refine lv_aload_n C.1 C.2.1 dL_law_565 rfl (lv_at hl 1 rfl) ?_
  refine lv_aload_n C.1 C.2.1 dL_law_566 rfl (lv_at hl 0 rfl) ?_
  refine lv_iload C.1 C.2.1 dL_law_567 (lv_at hl 4 rfl) ?_
  refine lv_iconst (v := 1) C.1 C.2.1 dL_law_569 (by decide) ?_
  refine lv_iadd C.1 C.2.1 dL_law_570 ?_
  refine r_scr C hXs hbl hbA hS dL_law_571 h (fun t1 h => ?_)
  refine lv_aload_n C.1 C.2.1 dL_law_572 rfl (lv_at hl 0 rfl) ?_
  refine lv_iload C.1 C.2.1 dL_law_573 (lv_at hl 4 rfl) ?_
  refine lv_iconst (v := 2) C.1 C.2.1 dL_law_575 (by decide) ?_
  refine lv_iadd C.1 C.2.1 dL_law_576 ?_
  refine r_scr C hXs hbl hbA hS dL_law_577 h (fun t2 h => ?_)
  refine lv_aload_n C.1 C.2.1 dL_law_578 rfl (lv_at hl 0 rfl) ?_
  refine lv_iload C.1 C.2.1 dL_law_579 (lv_at hl 4 rfl) ?_
  refine lv_iconst (v := 3) C.1 C.2.1 dL_law_581 (by decide) ?_
  refine lv_iadd C.1 C.2.1 dL_law_582 ?_
  refine r_scr C hXs hbl hbA hS dL_law_583 h (fun t3 h => ?_)
  refine lv_aload_n C.1 C.2.1 dL_law_584 rfl (lv_at hl 3 rfl) ?_
  obtain ⟨r4, hc, h⟩ := bS h
  refine r_W (n := 5) C hK hX hN hb hP hS hl.1 (kL_set hfl hc) wd_851 wd_853 wd_74 ⟨by decide +kernel, by decide +kernel, by decide +kernel⟩ wd_852 ⟨Nat.le_of_ble_eq_true rfl, Nat.le_of_ble_eq_true rfl⟩ (k1 := cl + 8) (k2 := sl + 48) ⟨Nat.add_le_add_left (Nat.le_of_ble_eq_true rfl) _, Nat.add_le_add_left (Nat.le_of_ble_eq_true rfl) _⟩ hRc rfl (rest := []) rfl (Nat.le_of_ble_eq_true rfl) dL_law_585 (fun H locs hP hS => ?_)
  refine lv_istore (lv' := [(5, .int r4.1), (0, .ref b), (1, .ref x), (2, .ref mm), (3, .ref out), (4, .int i)]) C.1 C.2.1 dL_law_588 hl (by decide) rfl (fun ls hl => ?_)
  refine lv_aload_n C.1 C.2.1 dL_law_590 rfl (lv_at hl 3 rfl) ?_
  refine lv_aload_n C.1 C.2.1 dL_law_591 rfl (lv_at hl 1 rfl) ?_
  refine lv_iload C.1 C.2.1 dL_law_592 (lv_at hl 5 rfl) ?_
  refine lv_iconst (v := 1) C.1 C.2.1 dL_law_594 (by decide) ?_
  refine lv_iadd C.1 C.2.1 dL_law_595 ?_
  refine r_scr C hXs hbl hbA hS dL_law_596 h (fun t5 h => ?_)
  refine lv_aload_n C.1 C.2.1 dL_law_597 rfl (lv_at hl 1 rfl) ?_
  refine lv_iload C.1 C.2.1 dL_law_598 (lv_at hl 5 rfl) ?_
  refine lv_iconst (v := 2) C.1 C.2.1 dL_law_600 (by decide) ?_
  refine lv_iadd C.1 C.2.1 dL_law_601 ?_
  refine r_scr C hXs hbl hbA hS dL_law_602 h (fun t6 h => ?_)
  refine lv_aload_n C.1 C.2.1 dL_law_603 rfl (lv_at hl 1 rfl) ?_
  refine lv_iload C.1 C.2.1 dL_law_604 (lv_at hl 5 rfl) ?_
  refine lv_iconst (v := 3) C.1 C.2.1 dL_law_606 (by decide) ?_
  refine lv_iadd C.1 C.2.1 dL_law_607 ?_
  refine r_scr C hXs hbl hbA hS dL_law_608 h (fun t7 h => ?_)
  obtain ⟨r8, hc, h⟩ := bS h
  refine r_V1 C hK hX hb hP ⟨hS, rfl⟩ hl.1 (kX7_set hTm hc) hTm cl_7 wd_1276 mo_X7_set wd_1277 wd_1278 ⟨Nat.le_of_ble_eq_true rfl, Nat.le_of_ble_eq_true rfl⟩ hRc rfl (rest := []) rfl (Nat.le_of_ble_eq_true rfl) dL_law_609 (fun H locs hP hS => ?_)
  replace hS := hS.1
  refine W.widen (k := cl + 8) (n := sl + 48) (Nat.le_refl _) (Nat.le_refl _) ?_
  refine lv_istore (lv' := [(6, .int r8.1), (5, .int r4.1), (0, .ref b), (1, .ref x), (2, .ref mm), (3, .ref out), (4, .int i)]) C.1 C.2.1 dL_law_612 hl (by decide) rfl (fun ls hl => ?_)
  refine lv_aload_n C.1 C.2.1 dL_law_614 rfl (lv_at hl 4 rfl) ?_
  obtain ⟨r9, hc, h⟩ := bS h
  refine r_V1 C hK hX hb hP ⟨hS, rfl⟩ hl.1 (kX7_thrown hTm hc) hTm cl_7 wd_1182 mo_X7_thrown wd_1183 wd_1184 ⟨Nat.le_of_ble_eq_true rfl, Nat.le_of_ble_eq_true rfl⟩ hRc rfl (rest := []) rfl (Nat.le_of_ble_eq_true rfl) dL_law_615 (fun H locs hP hS => ?_)
  replace hS := hS.1
  refine W.widen (k := cl + 8) (n := sl + 48) (Nat.le_refl _) (Nat.le_refl _) ?_
  refine lv_iload C.1 C.2.1 dL_law_618 (lv_at hl 1 rfl) ?_
  refine b_ieq (tgt := 625) C dL_law_620 (by decide) h (fun h => ?_) (fun h => ?_)
  · refine lv_iload C.1 C.2.1 dL_law_625 (lv_at hl 1 rfl) ?_
    refine b_ne (tgt := 642) C dL_law_627 (by decide) h (fun h => ?_) (fun h => ?_)
    · refine lv_aload_n C.1 C.2.1 dL_law_630 rfl (lv_at hl 5 rfl) ?_
      refine lv_iconst (v := 0) C.1 C.2.1 dL_law_631 (by decide) ?_
      refine r_aL C hK hP dL_law_632 h (fun y10 h => ?_)
      refine lv_iload C.1 C.2.1 dL_law_633 (lv_at hl 0 rfl) ?_
      refine lv_i2l C.1 C.2.1 dL_law_635 rfl ?_
      refine b_lcmp (tgt := 642) C dL_law_636 dL_law_637 (by decide) h (fun h => ?_) (fun h => ?_)
      · refine lv_goto (tgt := 2033) C.1 C.2.1 dL_law_642 (by decide) ?_
        have e := Option.some.inj h
        exact hk r8.2 _ _ _ e.symm hP hS (lv_sub hl [2, 3, 4, 5, 6] rfl)
      · exact absurd (hno 0 (Option.some.inj h).symm) (by decide)
    · refine lv_goto (tgt := 2033) C.1 C.2.1 dL_law_642 (by decide) ?_
      have e := Option.some.inj h
      exact hk r8.2 _ _ _ e.symm hP hS (lv_sub hl [2, 3, 4, 5, 6] rfl)
  · exact absurd (hno 0 (Option.some.inj h).symm) (by decide)
noncomputable def fL_c7 (n : Nat) (Sh : Sp) (xs : Nat → Int32) (L x mm out : Nat) (i : Int32) (M : Mm) : Option (Mm ⊕ Int32) :=
  scr xs L (i + 1) fun t1 =>
  (fL_setText n Sh M x t1 out).bind fun r2 =>
  scr xs L (i + 1) fun t3 =>
  (fX7_setText n Sh r2.2 mm t3).bind fun r4 =>
  (fX7_thrown n Sh r4.2 mm).bind fun r5 =>
  if r5 = r2.1 then
    if r2.1 = 0 then
      aL Sh r4.2 out 0 fun y6 =>
      if (y6 : Int64) = (Int32.toInt64 r4.1) then
        some (Sum.inl r4.2)
      else
        some (Sum.inr 0)
    else
      some (Sum.inl r4.2)
  else
    some (Sum.inr 0)
set_option maxRecDepth 100000 in
set_option maxHeartbeats 4000000 in
theorem kL_c7 (C : CallFix p m c cL_law 7 s args GW RL) (hfl : l.stackTraces = false) (hK : KK G s) (hX : XE G s s.heap) (hN : NC s) (hb : G.1 ≤ s.heap.size) (hXs : va_X b L xs s s.heap) (hbl : b < s.heap.size) (hbA : ¬ AA G b) (hTx : Sh x = some (.inl 6)) (hTm : Sh mm = some (.inl 7)) {z : Mm ⊕ Int32} (h : fL_c7 n Sh xs L x mm out i M = some z) (hRc : cl + 8 ≤ room_1.cells ∧ sl + 48 ≤ room_1.slots) (hP : HM G Sh M H) (hS : va_S (AA G) s.heap H locs) (hl : lv_has ls 7 [(0, .ref b), (1, .ref x), (2, .ref mm), (3, .ref out), (4, .int i)]) (hno : ∀ q : Int32, z = .inr q → q = 1)
    (hk : ∀ (M1 : Mm) (H : Heap) (locs : List Loc) (ls : Array Slot), z = .inl M1 → HM G Sh M1 H → va_S (AA G) s.heap H locs → lv_has ls 7 [(0, .ref b), (1, .ref x), (2, .ref mm), (3, .ref out), (4, .int i)] → W p l e room_1 s m args below meth c H locs (cl + 8) (sl + 48) Q (F0 m 2033 ls [])) :
    W p l e room_1 s m args below meth c H locs cl sl Q (F0 m 645 ls []) := by
  have hR0 : cl + 0 ≤ room_1.cells ∧ sl + 0 ≤ room_1.slots := ⟨Nat.le_trans (Nat.le_add_right cl 8) hRc.1, Nat.le_trans (Nat.le_add_right sl 48) hRc.2⟩
  unfold fL_c7 at h
  refine lv_aload_n C.1 C.2.1 dL_law_645 rfl (lv_at hl 1 rfl) ?_
  refine lv_aload_n C.1 C.2.1 dL_law_646 rfl (lv_at hl 0 rfl) ?_
  refine lv_iload C.1 C.2.1 dL_law_647 (lv_at hl 4 rfl) ?_
  refine lv_iconst (v := 1) C.1 C.2.1 dL_law_649 (by decide) ?_
  refine lv_iadd C.1 C.2.1 dL_law_650 ?_
  refine r_scr C hXs hbl hbA hS dL_law_651 h (fun t1 h => ?_)
  refine lv_aload_n C.1 C.2.1 dL_law_652 rfl (lv_at hl 3 rfl) ?_
  obtain ⟨r2, hc, h⟩ := bS h
  refine r_W (n := 3) C hK hX hN hb hP hS hl.1 (kL_setText hfl hc) wd_893 wd_895 wd_74 ⟨by decide +kernel, by decide +kernel, by decide +kernel⟩ wd_894 ⟨Nat.le_of_ble_eq_true rfl, Nat.le_of_ble_eq_true rfl⟩ (k1 := cl + 8) (k2 := sl + 48) ⟨Nat.add_le_add_left (Nat.le_of_ble_eq_true rfl) _, Nat.add_le_add_left (Nat.le_of_ble_eq_true rfl) _⟩ hRc rfl (rest := []) rfl (Nat.le_of_ble_eq_true rfl) dL_law_653 (fun H locs hP hS => ?_)
  refine lv_istore (lv' := [(5, .int r2.1), (0, .ref b), (1, .ref x), (2, .ref mm), (3, .ref out), (4, .int i)]) C.1 C.2.1 dL_law_656 hl (by decide) rfl (fun ls hl => ?_)
  refine lv_aload_n C.1 C.2.1 dL_law_658 rfl (lv_at hl 3 rfl) ?_
  refine lv_aload_n C.1 C.2.1 dL_law_659 rfl (lv_at hl 1 rfl) ?_
  refine lv_iload C.1 C.2.1 dL_law_660 (lv_at hl 5 rfl) ?_
  refine lv_iconst (v := 1) C.1 C.2.1 dL_law_662 (by decide) ?_
  refine lv_iadd C.1 C.2.1 dL_law_663 ?_
  refine r_scr C hXs hbl hbA hS dL_law_664 h (fun t3 h => ?_)
  obtain ⟨r4, hc, h⟩ := bS h
  refine r_V1 C hK hX hb hP ⟨hS, rfl⟩ hl.1 (kX7_setText hTm hc) hTm cl_7 wd_1354 mo_X7_setText wd_1355 wd_1356 ⟨Nat.le_of_ble_eq_true rfl, Nat.le_of_ble_eq_true rfl⟩ hRc rfl (rest := []) rfl (Nat.le_of_ble_eq_true rfl) dL_law_665 (fun H locs hP hS => ?_)
  replace hS := hS.1
  refine W.widen (k := cl + 8) (n := sl + 48) (Nat.le_refl _) (Nat.le_refl _) ?_
  refine lv_istore (lv' := [(6, .int r4.1), (5, .int r2.1), (0, .ref b), (1, .ref x), (2, .ref mm), (3, .ref out), (4, .int i)]) C.1 C.2.1 dL_law_668 hl (by decide) rfl (fun ls hl => ?_)
  refine lv_aload_n C.1 C.2.1 dL_law_670 rfl (lv_at hl 4 rfl) ?_
  obtain ⟨r5, hc, h⟩ := bS h
  refine r_V1 C hK hX hb hP ⟨hS, rfl⟩ hl.1 (kX7_thrown hTm hc) hTm cl_7 wd_1182 mo_X7_thrown wd_1183 wd_1184 ⟨Nat.le_of_ble_eq_true rfl, Nat.le_of_ble_eq_true rfl⟩ hRc rfl (rest := []) rfl (Nat.le_of_ble_eq_true rfl) dL_law_671 (fun H locs hP hS => ?_)
  replace hS := hS.1
  refine W.widen (k := cl + 8) (n := sl + 48) (Nat.le_refl _) (Nat.le_refl _) ?_
  refine lv_iload C.1 C.2.1 dL_law_674 (lv_at hl 1 rfl) ?_
  refine b_ieq (tgt := 681) C dL_law_676 (by decide) h (fun h => ?_) (fun h => ?_)
  · refine lv_iload C.1 C.2.1 dL_law_681 (lv_at hl 1 rfl) ?_
    refine b_ne (tgt := 698) C dL_law_683 (by decide) h (fun h => ?_) (fun h => ?_)
    · refine lv_aload_n C.1 C.2.1 dL_law_686 rfl (lv_at hl 5 rfl) ?_
      refine lv_iconst (v := 0) C.1 C.2.1 dL_law_687 (by decide) ?_
      refine r_aL C hK hP dL_law_688 h (fun y6 h => ?_)
      refine lv_iload C.1 C.2.1 dL_law_689 (lv_at hl 0 rfl) ?_
      refine lv_i2l C.1 C.2.1 dL_law_691 rfl ?_
      refine b_lcmp (tgt := 698) C dL_law_692 dL_law_693 (by decide) h (fun h => ?_) (fun h => ?_)
      · refine lv_goto (tgt := 2033) C.1 C.2.1 dL_law_698 (by decide) ?_
        have e := Option.some.inj h
        exact hk r4.2 _ _ _ e.symm hP hS (lv_sub hl [2, 3, 4, 5, 6] rfl)
      · exact absurd (hno 0 (Option.some.inj h).symm) (by decide)
    · refine lv_goto (tgt := 2033) C.1 C.2.1 dL_law_698 (by decide) ?_
      have e := Option.some.inj h
      exact hk r4.2 _ _ _ e.symm hP hS (lv_sub hl [2, 3, 4, 5, 6] rfl)
  · exact absurd (hno 0 (Option.some.inj h).symm) (by decide)
noncomputable def fL_c8 (n : Nat) (Sh : Sp) (xs : Nat → Int32) (L x mm out : Nat) (i : Int32) (M : Mm) : Option (Mm ⊕ Int32) :=
  scr xs L (i + 1) fun t1 =>
  (fL_setLabel n Sh M x t1 out).bind fun r2 =>
  scr xs L (i + 1) fun t3 =>
  (fX7_setLabel n Sh r2.2 mm t3).bind fun r4 =>
  (fX7_thrown n Sh r4.2 mm).bind fun r5 =>
  if r5 = r2.1 then
    if r2.1 = 0 then
      aL Sh r4.2 out 0 fun y6 =>
      if (y6 : Int64) = (Int32.toInt64 r4.1) then
        some (Sum.inl r4.2)
      else
        some (Sum.inr 0)
    else
      some (Sum.inl r4.2)
  else
    some (Sum.inr 0)
set_option maxRecDepth 100000 in
set_option maxHeartbeats 4000000 in
theorem kL_c8 (C : CallFix p m c cL_law 7 s args GW RL) (hfl : l.stackTraces = false) (hK : KK G s) (hX : XE G s s.heap) (hN : NC s) (hb : G.1 ≤ s.heap.size) (hXs : va_X b L xs s s.heap) (hbl : b < s.heap.size) (hbA : ¬ AA G b) (hTx : Sh x = some (.inl 6)) (hTm : Sh mm = some (.inl 7)) {z : Mm ⊕ Int32} (h : fL_c8 n Sh xs L x mm out i M = some z) (hRc : cl + 8 ≤ room_1.cells ∧ sl + 48 ≤ room_1.slots) (hP : HM G Sh M H) (hS : va_S (AA G) s.heap H locs) (hl : lv_has ls 7 [(0, .ref b), (1, .ref x), (2, .ref mm), (3, .ref out), (4, .int i)]) (hno : ∀ q : Int32, z = .inr q → q = 1)
    (hk : ∀ (M1 : Mm) (H : Heap) (locs : List Loc) (ls : Array Slot), z = .inl M1 → HM G Sh M1 H → va_S (AA G) s.heap H locs → lv_has ls 7 [(0, .ref b), (1, .ref x), (2, .ref mm), (3, .ref out), (4, .int i)] → W p l e room_1 s m args below meth c H locs (cl + 8) (sl + 48) Q (F0 m 2033 ls [])) :
    W p l e room_1 s m args below meth c H locs cl sl Q (F0 m 701 ls []) := by
  have hR0 : cl + 0 ≤ room_1.cells ∧ sl + 0 ≤ room_1.slots := ⟨Nat.le_trans (Nat.le_add_right cl 8) hRc.1, Nat.le_trans (Nat.le_add_right sl 48) hRc.2⟩
  unfold fL_c8 at h
  refine lv_aload_n C.1 C.2.1 dL_law_701 rfl (lv_at hl 1 rfl) ?_
  refine lv_aload_n C.1 C.2.1 dL_law_702 rfl (lv_at hl 0 rfl) ?_
  refine lv_iload C.1 C.2.1 dL_law_703 (lv_at hl 4 rfl) ?_
  refine lv_iconst (v := 1) C.1 C.2.1 dL_law_705 (by decide) ?_
  refine lv_iadd C.1 C.2.1 dL_law_706 ?_
  refine r_scr C hXs hbl hbA hS dL_law_707 h (fun t1 h => ?_)
  refine lv_aload_n C.1 C.2.1 dL_law_708 rfl (lv_at hl 3 rfl) ?_
  obtain ⟨r2, hc, h⟩ := bS h
  refine r_W (n := 3) C hK hX hN hb hP hS hl.1 (kL_setLabel hfl hc) wd_912 wd_914 wd_74 ⟨by decide +kernel, by decide +kernel, by decide +kernel⟩ wd_913 ⟨Nat.le_of_ble_eq_true rfl, Nat.le_of_ble_eq_true rfl⟩ (k1 := cl + 8) (k2 := sl + 48) ⟨Nat.add_le_add_left (Nat.le_of_ble_eq_true rfl) _, Nat.add_le_add_left (Nat.le_of_ble_eq_true rfl) _⟩ hRc rfl (rest := []) rfl (Nat.le_of_ble_eq_true rfl) dL_law_709 (fun H locs hP hS => ?_)
  refine lv_istore (lv' := [(5, .int r2.1), (0, .ref b), (1, .ref x), (2, .ref mm), (3, .ref out), (4, .int i)]) C.1 C.2.1 dL_law_712 hl (by decide) rfl (fun ls hl => ?_)
  refine lv_aload_n C.1 C.2.1 dL_law_714 rfl (lv_at hl 3 rfl) ?_
  refine lv_aload_n C.1 C.2.1 dL_law_715 rfl (lv_at hl 1 rfl) ?_
  refine lv_iload C.1 C.2.1 dL_law_716 (lv_at hl 5 rfl) ?_
  refine lv_iconst (v := 1) C.1 C.2.1 dL_law_718 (by decide) ?_
  refine lv_iadd C.1 C.2.1 dL_law_719 ?_
  refine r_scr C hXs hbl hbA hS dL_law_720 h (fun t3 h => ?_)
  obtain ⟨r4, hc, h⟩ := bS h
  refine r_V1 C hK hX hb hP ⟨hS, rfl⟩ hl.1 (kX7_setLabel hTm hc) hTm cl_7 wd_1362 mo_X7_setLabel wd_1363 wd_1364 ⟨Nat.le_of_ble_eq_true rfl, Nat.le_of_ble_eq_true rfl⟩ hRc rfl (rest := []) rfl (Nat.le_of_ble_eq_true rfl) dL_law_721 (fun H locs hP hS => ?_)
  replace hS := hS.1
  refine W.widen (k := cl + 8) (n := sl + 48) (Nat.le_refl _) (Nat.le_refl _) ?_
  refine lv_istore (lv' := [(6, .int r4.1), (5, .int r2.1), (0, .ref b), (1, .ref x), (2, .ref mm), (3, .ref out), (4, .int i)]) C.1 C.2.1 dL_law_724 hl (by decide) rfl (fun ls hl => ?_)
  refine lv_aload_n C.1 C.2.1 dL_law_726 rfl (lv_at hl 4 rfl) ?_
  obtain ⟨r5, hc, h⟩ := bS h
  refine r_V1 C hK hX hb hP ⟨hS, rfl⟩ hl.1 (kX7_thrown hTm hc) hTm cl_7 wd_1182 mo_X7_thrown wd_1183 wd_1184 ⟨Nat.le_of_ble_eq_true rfl, Nat.le_of_ble_eq_true rfl⟩ hRc rfl (rest := []) rfl (Nat.le_of_ble_eq_true rfl) dL_law_727 (fun H locs hP hS => ?_)
  replace hS := hS.1
  refine W.widen (k := cl + 8) (n := sl + 48) (Nat.le_refl _) (Nat.le_refl _) ?_
  refine lv_iload C.1 C.2.1 dL_law_730 (lv_at hl 1 rfl) ?_
  refine b_ieq (tgt := 737) C dL_law_732 (by decide) h (fun h => ?_) (fun h => ?_)
  · refine lv_iload C.1 C.2.1 dL_law_737 (lv_at hl 1 rfl) ?_
    refine b_ne (tgt := 754) C dL_law_739 (by decide) h (fun h => ?_) (fun h => ?_)
    · refine lv_aload_n C.1 C.2.1 dL_law_742 rfl (lv_at hl 5 rfl) ?_
      refine lv_iconst (v := 0) C.1 C.2.1 dL_law_743 (by decide) ?_
      refine r_aL C hK hP dL_law_744 h (fun y6 h => ?_)
      refine lv_iload C.1 C.2.1 dL_law_745 (lv_at hl 0 rfl) ?_
      refine lv_i2l C.1 C.2.1 dL_law_747 rfl ?_
      refine b_lcmp (tgt := 754) C dL_law_748 dL_law_749 (by decide) h (fun h => ?_) (fun h => ?_)
      · refine lv_goto (tgt := 2033) C.1 C.2.1 dL_law_754 (by decide) ?_
        have e := Option.some.inj h
        exact hk r4.2 _ _ _ e.symm hP hS (lv_sub hl [2, 3, 4, 5, 6] rfl)
      · exact absurd (hno 0 (Option.some.inj h).symm) (by decide)
    · refine lv_goto (tgt := 2033) C.1 C.2.1 dL_law_754 (by decide) ?_
      have e := Option.some.inj h
      exact hk r4.2 _ _ _ e.symm hP hS (lv_sub hl [2, 3, 4, 5, 6] rfl)
  · exact absurd (hno 0 (Option.some.inj h).symm) (by decide)
noncomputable def fL_c9 (n : Nat) (Sh : Sp) (xs : Nat → Int32) (L x mm out : Nat) (i : Int32) (M : Mm) : Option (Mm ⊕ Int32) :=
  scr xs L (i + 1) fun t1 =>
  scr xs L (i + 2) fun t2 =>
  (fL_setLabelledBy n Sh M x t1 t2 out).bind fun r3 =>
  scr xs L (i + 1) fun t4 =>
  scr xs L (i + 2) fun t5 =>
  (fX7_setLabelledBy n Sh r3.2 mm t4 t5).bind fun r6 =>
  (fX7_thrown n Sh r6.2 mm).bind fun r7 =>
  if r7 = r3.1 then
    if r3.1 = 0 then
      aL Sh r6.2 out 0 fun y8 =>
      if (y8 : Int64) = (Int32.toInt64 r6.1) then
        some (Sum.inl r6.2)
      else
        some (Sum.inr 0)
    else
      some (Sum.inl r6.2)
  else
    some (Sum.inr 0)
set_option maxRecDepth 100000 in
set_option maxHeartbeats 4000000 in
theorem kL_c9 (C : CallFix p m c cL_law 7 s args GW RL) (hfl : l.stackTraces = false) (hK : KK G s) (hX : XE G s s.heap) (hN : NC s) (hb : G.1 ≤ s.heap.size) (hXs : va_X b L xs s s.heap) (hbl : b < s.heap.size) (hbA : ¬ AA G b) (hTx : Sh x = some (.inl 6)) (hTm : Sh mm = some (.inl 7)) {z : Mm ⊕ Int32} (h : fL_c9 n Sh xs L x mm out i M = some z) (hRc : cl + 8 ≤ room_1.cells ∧ sl + 48 ≤ room_1.slots) (hP : HM G Sh M H) (hS : va_S (AA G) s.heap H locs) (hl : lv_has ls 7 [(0, .ref b), (1, .ref x), (2, .ref mm), (3, .ref out), (4, .int i)]) (hno : ∀ q : Int32, z = .inr q → q = 1)
    (hk : ∀ (M1 : Mm) (H : Heap) (locs : List Loc) (ls : Array Slot), z = .inl M1 → HM G Sh M1 H → va_S (AA G) s.heap H locs → lv_has ls 7 [(0, .ref b), (1, .ref x), (2, .ref mm), (3, .ref out), (4, .int i)] → W p l e room_1 s m args below meth c H locs (cl + 8) (sl + 48) Q (F0 m 2033 ls [])) :
    W p l e room_1 s m args below meth c H locs cl sl Q (F0 m 757 ls []) := by
  have hR0 : cl + 0 ≤ room_1.cells ∧ sl + 0 ≤ room_1.slots := ⟨Nat.le_trans (Nat.le_add_right cl 8) hRc.1, Nat.le_trans (Nat.le_add_right sl 48) hRc.2⟩
  unfold fL_c9 at h
  refine lv_aload_n C.1 C.2.1 dL_law_757 rfl (lv_at hl 1 rfl) ?_
  refine lv_aload_n C.1 C.2.1 dL_law_758 rfl (lv_at hl 0 rfl) ?_
  refine lv_iload C.1 C.2.1 dL_law_759 (lv_at hl 4 rfl) ?_
  refine lv_iconst (v := 1) C.1 C.2.1 dL_law_761 (by decide) ?_
  refine lv_iadd C.1 C.2.1 dL_law_762 ?_
  refine r_scr C hXs hbl hbA hS dL_law_763 h (fun t1 h => ?_)
  refine lv_aload_n C.1 C.2.1 dL_law_764 rfl (lv_at hl 0 rfl) ?_
  refine lv_iload C.1 C.2.1 dL_law_765 (lv_at hl 4 rfl) ?_
  refine lv_iconst (v := 2) C.1 C.2.1 dL_law_767 (by decide) ?_
  refine lv_iadd C.1 C.2.1 dL_law_768 ?_
  refine r_scr C hXs hbl hbA hS dL_law_769 h (fun t2 h => ?_)
  refine lv_aload_n C.1 C.2.1 dL_law_770 rfl (lv_at hl 3 rfl) ?_
  obtain ⟨r3, hc, h⟩ := bS h
  refine r_W (n := 4) C hK hX hN hb hP hS hl.1 (kL_setLabelledBy hfl hc) wd_920 wd_922 wd_74 ⟨by decide +kernel, by decide +kernel, by decide +kernel⟩ wd_921 ⟨Nat.le_of_ble_eq_true rfl, Nat.le_of_ble_eq_true rfl⟩ (k1 := cl + 8) (k2 := sl + 48) ⟨Nat.add_le_add_left (Nat.le_of_ble_eq_true rfl) _, Nat.add_le_add_left (Nat.le_of_ble_eq_true rfl) _⟩ hRc rfl (rest := []) rfl (Nat.le_of_ble_eq_true rfl) dL_law_771 (fun H locs hP hS => ?_)
  refine lv_istore (lv' := [(5, .int r3.1), (0, .ref b), (1, .ref x), (2, .ref mm), (3, .ref out), (4, .int i)]) C.1 C.2.1 dL_law_774 hl (by decide) rfl (fun ls hl => ?_)
  refine lv_aload_n C.1 C.2.1 dL_law_776 rfl (lv_at hl 3 rfl) ?_
  refine lv_aload_n C.1 C.2.1 dL_law_777 rfl (lv_at hl 1 rfl) ?_
  refine lv_iload C.1 C.2.1 dL_law_778 (lv_at hl 5 rfl) ?_
  refine lv_iconst (v := 1) C.1 C.2.1 dL_law_780 (by decide) ?_
  refine lv_iadd C.1 C.2.1 dL_law_781 ?_
  refine r_scr C hXs hbl hbA hS dL_law_782 h (fun t4 h => ?_)
  refine lv_aload_n C.1 C.2.1 dL_law_783 rfl (lv_at hl 1 rfl) ?_
  refine lv_iload C.1 C.2.1 dL_law_784 (lv_at hl 5 rfl) ?_
  refine lv_iconst (v := 2) C.1 C.2.1 dL_law_786 (by decide) ?_
  refine lv_iadd C.1 C.2.1 dL_law_787 ?_
  refine r_scr C hXs hbl hbA hS dL_law_788 h (fun t5 h => ?_)
  obtain ⟨r6, hc, h⟩ := bS h
  refine r_V1 C hK hX hb hP ⟨hS, rfl⟩ hl.1 (kX7_setLabelledBy hTm hc) hTm cl_7 wd_1366 mo_X7_setLabelledBy wd_1367 wd_1368 ⟨Nat.le_of_ble_eq_true rfl, Nat.le_of_ble_eq_true rfl⟩ hRc rfl (rest := []) rfl (Nat.le_of_ble_eq_true rfl) dL_law_789 (fun H locs hP hS => ?_)
  replace hS := hS.1
  refine W.widen (k := cl + 8) (n := sl + 48) (Nat.le_refl _) (Nat.le_refl _) ?_
  refine lv_istore (lv' := [(6, .int r6.1), (5, .int r3.1), (0, .ref b), (1, .ref x), (2, .ref mm), (3, .ref out), (4, .int i)]) C.1 C.2.1 dL_law_792 hl (by decide) rfl (fun ls hl => ?_)
  refine lv_aload_n C.1 C.2.1 dL_law_794 rfl (lv_at hl 4 rfl) ?_
  obtain ⟨r7, hc, h⟩ := bS h
  refine r_V1 C hK hX hb hP ⟨hS, rfl⟩ hl.1 (kX7_thrown hTm hc) hTm cl_7 wd_1182 mo_X7_thrown wd_1183 wd_1184 ⟨Nat.le_of_ble_eq_true rfl, Nat.le_of_ble_eq_true rfl⟩ hRc rfl (rest := []) rfl (Nat.le_of_ble_eq_true rfl) dL_law_795 (fun H locs hP hS => ?_)
  replace hS := hS.1
  refine W.widen (k := cl + 8) (n := sl + 48) (Nat.le_refl _) (Nat.le_refl _) ?_
  refine lv_iload C.1 C.2.1 dL_law_798 (lv_at hl 1 rfl) ?_
  refine b_ieq (tgt := 805) C dL_law_800 (by decide) h (fun h => ?_) (fun h => ?_)
  · refine lv_iload C.1 C.2.1 dL_law_805 (lv_at hl 1 rfl) ?_
    refine b_ne (tgt := 822) C dL_law_807 (by decide) h (fun h => ?_) (fun h => ?_)
    · refine lv_aload_n C.1 C.2.1 dL_law_810 rfl (lv_at hl 5 rfl) ?_
      refine lv_iconst (v := 0) C.1 C.2.1 dL_law_811 (by decide) ?_
      refine r_aL C hK hP dL_law_812 h (fun y8 h => ?_)
      refine lv_iload C.1 C.2.1 dL_law_813 (lv_at hl 0 rfl) ?_
      refine lv_i2l C.1 C.2.1 dL_law_815 rfl ?_
      refine b_lcmp (tgt := 822) C dL_law_816 dL_law_817 (by decide) h (fun h => ?_) (fun h => ?_)
      · refine lv_goto (tgt := 2033) C.1 C.2.1 dL_law_822 (by decide) ?_
        have e := Option.some.inj h
        exact hk r6.2 _ _ _ e.symm hP hS (lv_sub hl [2, 3, 4, 5, 6] rfl)
      · exact absurd (hno 0 (Option.some.inj h).symm) (by decide)
    · refine lv_goto (tgt := 2033) C.1 C.2.1 dL_law_822 (by decide) ?_
      have e := Option.some.inj h
      exact hk r6.2 _ _ _ e.symm hP hS (lv_sub hl [2, 3, 4, 5, 6] rfl)
  · exact absurd (hno 0 (Option.some.inj h).symm) (by decide)
noncomputable def fL_c10 (n : Nat) (Sh : Sp) (xs : Nat → Int32) (L x mm out : Nat) (i : Int32) (M : Mm) : Option (Mm ⊕ Int32) :=
  scr xs L (i + 1) fun t1 =>
  scr xs L (i + 2) fun t2 =>
  scr xs L (i + 3) fun t3 =>
  (fL_character n Sh M x t1 t2 t3 out).bind fun r4 =>
  scr xs L (i + 1) fun t5 =>
  scr xs L (i + 2) fun t6 =>
  scr xs L (i + 3) fun t7 =>
  (fX7_character n Sh r4.2 mm t5 t6 t7).bind fun r8 =>
  (fX7_thrown n Sh r8.2 mm).bind fun r9 =>
  if r9 = r4.1 then
    if r4.1 = 0 then
      aL Sh r8.2 out 0 fun y10 =>
      if (y10 : Int64) = (Int32.toInt64 r8.1) then
        some (Sum.inl r8.2)
      else
        some (Sum.inr 0)
    else
      some (Sum.inl r8.2)
  else
    some (Sum.inr 0)
set_option maxRecDepth 100000 in
set_option maxHeartbeats 4000000 in
theorem kL_c10 (C : CallFix p m c cL_law 7 s args GW RL) (hfl : l.stackTraces = false) (hK : KK G s) (hX : XE G s s.heap) (hN : NC s) (hb : G.1 ≤ s.heap.size) (hXs : va_X b L xs s s.heap) (hbl : b < s.heap.size) (hbA : ¬ AA G b) (hTx : Sh x = some (.inl 6)) (hTm : Sh mm = some (.inl 7)) {z : Mm ⊕ Int32} (h : fL_c10 n Sh xs L x mm out i M = some z) (hRc : cl + 8 ≤ room_1.cells ∧ sl + 48 ≤ room_1.slots) (hP : HM G Sh M H) (hS : va_S (AA G) s.heap H locs) (hl : lv_has ls 7 [(0, .ref b), (1, .ref x), (2, .ref mm), (3, .ref out), (4, .int i)]) (hno : ∀ q : Int32, z = .inr q → q = 1)
    (hk : ∀ (M1 : Mm) (H : Heap) (locs : List Loc) (ls : Array Slot), z = .inl M1 → HM G Sh M1 H → va_S (AA G) s.heap H locs → lv_has ls 7 [(0, .ref b), (1, .ref x), (2, .ref mm), (3, .ref out), (4, .int i)] → W p l e room_1 s m args below meth c H locs (cl + 8) (sl + 48) Q (F0 m 2033 ls [])) :
    W p l e room_1 s m args below meth c H locs cl sl Q (F0 m 825 ls []) := by
  have hR0 : cl + 0 ≤ room_1.cells ∧ sl + 0 ≤ room_1.slots := ⟨Nat.le_trans (Nat.le_add_right cl 8) hRc.1, Nat.le_trans (Nat.le_add_right sl 48) hRc.2⟩
  unfold fL_c10 at h
  refine lv_aload_n C.1 C.2.1 dL_law_825 rfl (lv_at hl 1 rfl) ?_
  refine lv_aload_n C.1 C.2.1 dL_law_826 rfl (lv_at hl 0 rfl) ?_
  refine lv_iload C.1 C.2.1 dL_law_827 (lv_at hl 4 rfl) ?_
  refine lv_iconst (v := 1) C.1 C.2.1 dL_law_829 (by decide) ?_
  refine lv_iadd C.1 C.2.1 dL_law_830 ?_
  refine r_scr C hXs hbl hbA hS dL_law_831 h (fun t1 h => ?_)
  refine lv_aload_n C.1 C.2.1 dL_law_832 rfl (lv_at hl 0 rfl) ?_
  refine lv_iload C.1 C.2.1 dL_law_833 (lv_at hl 4 rfl) ?_
  refine lv_iconst (v := 2) C.1 C.2.1 dL_law_835 (by decide) ?_
  refine lv_iadd C.1 C.2.1 dL_law_836 ?_
  refine r_scr C hXs hbl hbA hS dL_law_837 h (fun t2 h => ?_)
  refine lv_aload_n C.1 C.2.1 dL_law_838 rfl (lv_at hl 0 rfl) ?_
  refine lv_iload C.1 C.2.1 dL_law_839 (lv_at hl 4 rfl) ?_
  refine lv_iconst (v := 3) C.1 C.2.1 dL_law_841 (by decide) ?_
  refine lv_iadd C.1 C.2.1 dL_law_842 ?_
  refine r_scr C hXs hbl hbA hS dL_law_843 h (fun t3 h => ?_)
  refine lv_aload_n C.1 C.2.1 dL_law_844 rfl (lv_at hl 3 rfl) ?_
  obtain ⟨r4, hc, h⟩ := bS h
  refine r_W (n := 5) C hK hX hN hb hP hS hl.1 (kL_character hfl hc) wd_933 wd_935 wd_74 ⟨by decide +kernel, by decide +kernel, by decide +kernel⟩ wd_934 ⟨Nat.le_of_ble_eq_true rfl, Nat.le_of_ble_eq_true rfl⟩ (k1 := cl + 8) (k2 := sl + 48) ⟨Nat.add_le_add_left (Nat.le_of_ble_eq_true rfl) _, Nat.add_le_add_left (Nat.le_of_ble_eq_true rfl) _⟩ hRc rfl (rest := []) rfl (Nat.le_of_ble_eq_true rfl) dL_law_845 (fun H locs hP hS => ?_)
  refine lv_istore (lv' := [(5, .int r4.1), (0, .ref b), (1, .ref x), (2, .ref mm), (3, .ref out), (4, .int i)]) C.1 C.2.1 dL_law_848 hl (by decide) rfl (fun ls hl => ?_)
  refine lv_aload_n C.1 C.2.1 dL_law_850 rfl (lv_at hl 3 rfl) ?_
  refine lv_aload_n C.1 C.2.1 dL_law_851 rfl (lv_at hl 1 rfl) ?_
  refine lv_iload C.1 C.2.1 dL_law_852 (lv_at hl 5 rfl) ?_
  refine lv_iconst (v := 1) C.1 C.2.1 dL_law_854 (by decide) ?_
  refine lv_iadd C.1 C.2.1 dL_law_855 ?_
  refine r_scr C hXs hbl hbA hS dL_law_856 h (fun t5 h => ?_)
  refine lv_aload_n C.1 C.2.1 dL_law_857 rfl (lv_at hl 1 rfl) ?_
  refine lv_iload C.1 C.2.1 dL_law_858 (lv_at hl 5 rfl) ?_
  refine lv_iconst (v := 2) C.1 C.2.1 dL_law_860 (by decide) ?_
  refine lv_iadd C.1 C.2.1 dL_law_861 ?_
  refine r_scr C hXs hbl hbA hS dL_law_862 h (fun t6 h => ?_)
  refine lv_aload_n C.1 C.2.1 dL_law_863 rfl (lv_at hl 1 rfl) ?_
  refine lv_iload C.1 C.2.1 dL_law_864 (lv_at hl 5 rfl) ?_
  refine lv_iconst (v := 3) C.1 C.2.1 dL_law_866 (by decide) ?_
  refine lv_iadd C.1 C.2.1 dL_law_867 ?_
  refine r_scr C hXs hbl hbA hS dL_law_868 h (fun t7 h => ?_)
  obtain ⟨r8, hc, h⟩ := bS h
  refine r_V1 C hK hX hb hP ⟨hS, rfl⟩ hl.1 (kX7_character hTm hc) hTm cl_7 wd_1370 mo_X7_character wd_1371 wd_1372 ⟨Nat.le_of_ble_eq_true rfl, Nat.le_of_ble_eq_true rfl⟩ hRc rfl (rest := []) rfl (Nat.le_of_ble_eq_true rfl) dL_law_869 (fun H locs hP hS => ?_)
  replace hS := hS.1
  refine W.widen (k := cl + 8) (n := sl + 48) (Nat.le_refl _) (Nat.le_refl _) ?_
  refine lv_istore (lv' := [(6, .int r8.1), (5, .int r4.1), (0, .ref b), (1, .ref x), (2, .ref mm), (3, .ref out), (4, .int i)]) C.1 C.2.1 dL_law_872 hl (by decide) rfl (fun ls hl => ?_)
  refine lv_aload_n C.1 C.2.1 dL_law_874 rfl (lv_at hl 4 rfl) ?_
  obtain ⟨r9, hc, h⟩ := bS h
  refine r_V1 C hK hX hb hP ⟨hS, rfl⟩ hl.1 (kX7_thrown hTm hc) hTm cl_7 wd_1182 mo_X7_thrown wd_1183 wd_1184 ⟨Nat.le_of_ble_eq_true rfl, Nat.le_of_ble_eq_true rfl⟩ hRc rfl (rest := []) rfl (Nat.le_of_ble_eq_true rfl) dL_law_875 (fun H locs hP hS => ?_)
  replace hS := hS.1
  refine W.widen (k := cl + 8) (n := sl + 48) (Nat.le_refl _) (Nat.le_refl _) ?_
  refine lv_iload C.1 C.2.1 dL_law_878 (lv_at hl 1 rfl) ?_
  refine b_ieq (tgt := 885) C dL_law_880 (by decide) h (fun h => ?_) (fun h => ?_)
  · refine lv_iload C.1 C.2.1 dL_law_885 (lv_at hl 1 rfl) ?_
    refine b_ne (tgt := 902) C dL_law_887 (by decide) h (fun h => ?_) (fun h => ?_)
    · refine lv_aload_n C.1 C.2.1 dL_law_890 rfl (lv_at hl 5 rfl) ?_
      refine lv_iconst (v := 0) C.1 C.2.1 dL_law_891 (by decide) ?_
      refine r_aL C hK hP dL_law_892 h (fun y10 h => ?_)
      refine lv_iload C.1 C.2.1 dL_law_893 (lv_at hl 0 rfl) ?_
      refine lv_i2l C.1 C.2.1 dL_law_895 rfl ?_
      refine b_lcmp (tgt := 902) C dL_law_896 dL_law_897 (by decide) h (fun h => ?_) (fun h => ?_)
      · refine lv_goto (tgt := 2033) C.1 C.2.1 dL_law_902 (by decide) ?_
        have e := Option.some.inj h
        exact hk r8.2 _ _ _ e.symm hP hS (lv_sub hl [2, 3, 4, 5, 6] rfl)
      · exact absurd (hno 0 (Option.some.inj h).symm) (by decide)
    · refine lv_goto (tgt := 2033) C.1 C.2.1 dL_law_902 (by decide) ?_
      have e := Option.some.inj h
      exact hk r8.2 _ _ _ e.symm hP hS (lv_sub hl [2, 3, 4, 5, 6] rfl)
  · exact absurd (hno 0 (Option.some.inj h).symm) (by decide)
noncomputable def fL_c11 (n : Nat) (Sh : Sp) (xs : Nat → Int32) (L x mm out : Nat) (i : Int32) (M : Mm) : Option (Mm ⊕ Int32) :=
  scr xs L (i + 1) fun t1 =>
  scr xs L (i + 2) fun t2 =>
  (fL_length n Sh M x t1 t2 out).bind fun r3 =>
  scr xs L (i + 1) fun t4 =>
  scr xs L (i + 2) fun t5 =>
  (fX7_length n Sh r3.2 mm t4 t5).bind fun r6 =>
  (fX7_thrown n Sh r6.2 mm).bind fun r7 =>
  if r7 = r3.1 then
    if r3.1 = 0 then
      aL Sh r6.2 out 0 fun y8 =>
      if (y8 : Int64) = (Int32.toInt64 r6.1) then
        some (Sum.inl r6.2)
      else
        some (Sum.inr 0)
    else
      some (Sum.inl r6.2)
  else
    some (Sum.inr 0)
set_option maxRecDepth 100000 in
set_option maxHeartbeats 4000000 in
theorem kL_c11 (C : CallFix p m c cL_law 7 s args GW RL) (hfl : l.stackTraces = false) (hK : KK G s) (hX : XE G s s.heap) (hN : NC s) (hb : G.1 ≤ s.heap.size) (hXs : va_X b L xs s s.heap) (hbl : b < s.heap.size) (hbA : ¬ AA G b) (hTx : Sh x = some (.inl 6)) (hTm : Sh mm = some (.inl 7)) {z : Mm ⊕ Int32} (h : fL_c11 n Sh xs L x mm out i M = some z) (hRc : cl + 8 ≤ room_1.cells ∧ sl + 48 ≤ room_1.slots) (hP : HM G Sh M H) (hS : va_S (AA G) s.heap H locs) (hl : lv_has ls 7 [(0, .ref b), (1, .ref x), (2, .ref mm), (3, .ref out), (4, .int i)]) (hno : ∀ q : Int32, z = .inr q → q = 1)
    (hk : ∀ (M1 : Mm) (H : Heap) (locs : List Loc) (ls : Array Slot), z = .inl M1 → HM G Sh M1 H → va_S (AA G) s.heap H locs → lv_has ls 7 [(0, .ref b), (1, .ref x), (2, .ref mm), (3, .ref out), (4, .int i)] → W p l e room_1 s m args below meth c H locs (cl + 8) (sl + 48) Q (F0 m 2033 ls [])) :
    W p l e room_1 s m args below meth c H locs cl sl Q (F0 m 905 ls []) := by
  have hR0 : cl + 0 ≤ room_1.cells ∧ sl + 0 ≤ room_1.slots := ⟨Nat.le_trans (Nat.le_add_right cl 8) hRc.1, Nat.le_trans (Nat.le_add_right sl 48) hRc.2⟩
  unfold fL_c11 at h
  refine lv_aload_n C.1 C.2.1 dL_law_905 rfl (lv_at hl 1 rfl) ?_
  refine lv_aload_n C.1 C.2.1 dL_law_906 rfl (lv_at hl 0 rfl) ?_
  refine lv_iload C.1 C.2.1 dL_law_907 (lv_at hl 4 rfl) ?_
  refine lv_iconst (v := 1) C.1 C.2.1 dL_law_909 (by decide) ?_
  refine lv_iadd C.1 C.2.1 dL_law_910 ?_
  refine r_scr C hXs hbl hbA hS dL_law_911 h (fun t1 h => ?_)
  refine lv_aload_n C.1 C.2.1 dL_law_912 rfl (lv_at hl 0 rfl) ?_
  refine lv_iload C.1 C.2.1 dL_law_913 (lv_at hl 4 rfl) ?_
  refine lv_iconst (v := 2) C.1 C.2.1 dL_law_915 (by decide) ?_
  refine lv_iadd C.1 C.2.1 dL_law_916 ?_
  refine r_scr C hXs hbl hbA hS dL_law_917 h (fun t2 h => ?_)
  refine lv_aload_n C.1 C.2.1 dL_law_918 rfl (lv_at hl 3 rfl) ?_
  obtain ⟨r3, hc, h⟩ := bS h
  refine r_W (n := 4) C hK hX hN hb hP hS hl.1 (kL_length hfl hc) wd_951 wd_953 wd_74 ⟨by decide +kernel, by decide +kernel, by decide +kernel⟩ wd_952 ⟨Nat.le_of_ble_eq_true rfl, Nat.le_of_ble_eq_true rfl⟩ (k1 := cl + 8) (k2 := sl + 48) ⟨Nat.add_le_add_left (Nat.le_of_ble_eq_true rfl) _, Nat.add_le_add_left (Nat.le_of_ble_eq_true rfl) _⟩ hRc rfl (rest := []) rfl (Nat.le_of_ble_eq_true rfl) dL_law_919 (fun H locs hP hS => ?_)
  refine lv_istore (lv' := [(5, .int r3.1), (0, .ref b), (1, .ref x), (2, .ref mm), (3, .ref out), (4, .int i)]) C.1 C.2.1 dL_law_922 hl (by decide) rfl (fun ls hl => ?_)
  refine lv_aload_n C.1 C.2.1 dL_law_924 rfl (lv_at hl 3 rfl) ?_
  refine lv_aload_n C.1 C.2.1 dL_law_925 rfl (lv_at hl 1 rfl) ?_
  refine lv_iload C.1 C.2.1 dL_law_926 (lv_at hl 5 rfl) ?_
  refine lv_iconst (v := 1) C.1 C.2.1 dL_law_928 (by decide) ?_
  refine lv_iadd C.1 C.2.1 dL_law_929 ?_
  refine r_scr C hXs hbl hbA hS dL_law_930 h (fun t4 h => ?_)
  refine lv_aload_n C.1 C.2.1 dL_law_931 rfl (lv_at hl 1 rfl) ?_
  refine lv_iload C.1 C.2.1 dL_law_932 (lv_at hl 5 rfl) ?_
  refine lv_iconst (v := 2) C.1 C.2.1 dL_law_934 (by decide) ?_
  refine lv_iadd C.1 C.2.1 dL_law_935 ?_
  refine r_scr C hXs hbl hbA hS dL_law_936 h (fun t5 h => ?_)
  obtain ⟨r6, hc, h⟩ := bS h
  refine r_V1 C hK hX hb hP ⟨hS, rfl⟩ hl.1 (kX7_length hTm hc) hTm cl_7 wd_1374 mo_X7_length wd_1375 wd_1376 ⟨Nat.le_of_ble_eq_true rfl, Nat.le_of_ble_eq_true rfl⟩ hRc rfl (rest := []) rfl (Nat.le_of_ble_eq_true rfl) dL_law_937 (fun H locs hP hS => ?_)
  replace hS := hS.1
  refine W.widen (k := cl + 8) (n := sl + 48) (Nat.le_refl _) (Nat.le_refl _) ?_
  refine lv_istore (lv' := [(6, .int r6.1), (5, .int r3.1), (0, .ref b), (1, .ref x), (2, .ref mm), (3, .ref out), (4, .int i)]) C.1 C.2.1 dL_law_940 hl (by decide) rfl (fun ls hl => ?_)
  refine lv_aload_n C.1 C.2.1 dL_law_942 rfl (lv_at hl 4 rfl) ?_
  obtain ⟨r7, hc, h⟩ := bS h
  refine r_V1 C hK hX hb hP ⟨hS, rfl⟩ hl.1 (kX7_thrown hTm hc) hTm cl_7 wd_1182 mo_X7_thrown wd_1183 wd_1184 ⟨Nat.le_of_ble_eq_true rfl, Nat.le_of_ble_eq_true rfl⟩ hRc rfl (rest := []) rfl (Nat.le_of_ble_eq_true rfl) dL_law_943 (fun H locs hP hS => ?_)
  replace hS := hS.1
  refine W.widen (k := cl + 8) (n := sl + 48) (Nat.le_refl _) (Nat.le_refl _) ?_
  refine lv_iload C.1 C.2.1 dL_law_946 (lv_at hl 1 rfl) ?_
  refine b_ieq (tgt := 953) C dL_law_948 (by decide) h (fun h => ?_) (fun h => ?_)
  · refine lv_iload C.1 C.2.1 dL_law_953 (lv_at hl 1 rfl) ?_
    refine b_ne (tgt := 970) C dL_law_955 (by decide) h (fun h => ?_) (fun h => ?_)
    · refine lv_aload_n C.1 C.2.1 dL_law_958 rfl (lv_at hl 5 rfl) ?_
      refine lv_iconst (v := 0) C.1 C.2.1 dL_law_959 (by decide) ?_
      refine r_aL C hK hP dL_law_960 h (fun y8 h => ?_)
      refine lv_iload C.1 C.2.1 dL_law_961 (lv_at hl 0 rfl) ?_
      refine lv_i2l C.1 C.2.1 dL_law_963 rfl ?_
      refine b_lcmp (tgt := 970) C dL_law_964 dL_law_965 (by decide) h (fun h => ?_) (fun h => ?_)
      · refine lv_goto (tgt := 2033) C.1 C.2.1 dL_law_970 (by decide) ?_
        have e := Option.some.inj h
        exact hk r6.2 _ _ _ e.symm hP hS (lv_sub hl [2, 3, 4, 5, 6] rfl)
      · exact absurd (hno 0 (Option.some.inj h).symm) (by decide)
    · refine lv_goto (tgt := 2033) C.1 C.2.1 dL_law_970 (by decide) ?_
      have e := Option.some.inj h
      exact hk r6.2 _ _ _ e.symm hP hS (lv_sub hl [2, 3, 4, 5, 6] rfl)
  · exact absurd (hno 0 (Option.some.inj h).symm) (by decide)
noncomputable def fL_c12 (n : Nat) (Sh : Sp) (xs : Nat → Int32) (L x mm out : Nat) (i : Int32) (M : Mm) : Option (Mm ⊕ Int32) :=
  scr xs L (i + 1) fun t1 =>
  (fX6_inOrder n Sh M x t1).bind fun r2 =>
  scr xs L (i + 1) fun t3 =>
  (fX7_inOrder n Sh r2.2 mm t3).bind fun r4 =>
  if r2.1 = r4.1 then
    some (Sum.inl r4.2)
  else
    some (Sum.inr 0)
set_option maxRecDepth 100000 in
set_option maxHeartbeats 4000000 in
theorem kL_c12 (C : CallFix p m c cL_law 7 s args GW RL) (hfl : l.stackTraces = false) (hK : KK G s) (hX : XE G s s.heap) (hN : NC s) (hb : G.1 ≤ s.heap.size) (hXs : va_X b L xs s s.heap) (hbl : b < s.heap.size) (hbA : ¬ AA G b) (hTx : Sh x = some (.inl 6)) (hTm : Sh mm = some (.inl 7)) {z : Mm ⊕ Int32} (h : fL_c12 n Sh xs L x mm out i M = some z) (hRc : cl + 8 ≤ room_1.cells ∧ sl + 48 ≤ room_1.slots) (hP : HM G Sh M H) (hS : va_S (AA G) s.heap H locs) (hl : lv_has ls 7 [(0, .ref b), (1, .ref x), (2, .ref mm), (3, .ref out), (4, .int i)]) (hno : ∀ q : Int32, z = .inr q → q = 1)
    (hk : ∀ (M1 : Mm) (H : Heap) (locs : List Loc) (ls : Array Slot), z = .inl M1 → HM G Sh M1 H → va_S (AA G) s.heap H locs → lv_has ls 7 [(0, .ref b), (1, .ref x), (2, .ref mm), (3, .ref out), (4, .int i)] → W p l e room_1 s m args below meth c H locs (cl + 8) (sl + 48) Q (F0 m 2033 ls [])) :
    W p l e room_1 s m args below meth c H locs cl sl Q (F0 m 973 ls []) := by
  have hR0 : cl + 0 ≤ room_1.cells ∧ sl + 0 ≤ room_1.slots := ⟨Nat.le_trans (Nat.le_add_right cl 8) hRc.1, Nat.le_trans (Nat.le_add_right sl 48) hRc.2⟩
  unfold fL_c12 at h
  refine lv_aload_n C.1 C.2.1 dL_law_973 rfl (lv_at hl 1 rfl) ?_
  refine lv_aload_n C.1 C.2.1 dL_law_974 rfl (lv_at hl 0 rfl) ?_
  refine lv_iload C.1 C.2.1 dL_law_975 (lv_at hl 4 rfl) ?_
  refine lv_iconst (v := 1) C.1 C.2.1 dL_law_977 (by decide) ?_
  refine lv_iadd C.1 C.2.1 dL_law_978 ?_
  refine r_scr C hXs hbl hbA hS dL_law_979 h (fun t1 h => ?_)
  obtain ⟨r2, hc, h⟩ := bS h
  refine r_V1 C hK hX hb hP ⟨hS, rfl⟩ hl.1 (kX6_inOrder hTx hc) hTx cl_6 wd_309 mo_X6_inOrder wd_310 wd_311 ⟨Nat.le_of_ble_eq_true rfl, Nat.le_of_ble_eq_true rfl⟩ hR0 rfl (rest := []) rfl (Nat.le_of_ble_eq_true rfl) dL_law_980 (fun H locs hP hS => ?_)
  replace hS := hS.1
  refine W.widen (k := cl) (n := sl) (Nat.le_refl _) (Nat.le_refl _) ?_
  refine lv_aload_n C.1 C.2.1 dL_law_983 rfl (lv_at hl 2 rfl) ?_
  refine lv_aload_n C.1 C.2.1 dL_law_984 rfl (lv_at hl 0 rfl) ?_
  refine lv_iload C.1 C.2.1 dL_law_985 (lv_at hl 4 rfl) ?_
  refine lv_iconst (v := 1) C.1 C.2.1 dL_law_987 (by decide) ?_
  refine lv_iadd C.1 C.2.1 dL_law_988 ?_
  refine r_scr C hXs hbl hbA hS dL_law_989 h (fun t3 h => ?_)
  obtain ⟨r4, hc, h⟩ := bS h
  refine r_V1 C hK hX hb hP ⟨hS, rfl⟩ hl.1 (kX7_inOrder hTm hc) hTm cl_7 wd_1378 mo_X7_inOrder wd_1379 wd_1380 ⟨Nat.le_of_ble_eq_true rfl, Nat.le_of_ble_eq_true rfl⟩ hR0 rfl (rest := [.int r2.1]) rfl (Nat.le_of_ble_eq_true rfl) dL_law_990 (fun H locs hP hS => ?_)
  replace hS := hS.1
  refine W.widen (k := cl) (n := sl) (Nat.le_refl _) (Nat.le_refl _) ?_
  refine b_ieq (tgt := 2033) C dL_law_993 (by decide) h (fun h => ?_) (fun h => ?_)
  · have e := Option.some.inj h
    refine W.widen (k := cl + 8) (n := sl + 48) (Nat.le_add_right _ _) (Nat.le_add_right _ _) ?_
    exact hk r4.2 _ _ _ e.symm hP hS (lv_sub hl [0, 1, 2, 3, 4] rfl)
  · exact absurd (hno 0 (Option.some.inj h).symm) (by decide)
noncomputable def fL_c13 (n : Nat) (Sh : Sp) (xs : Nat → Int32) (L x mm out : Nat) (i : Int32) (M : Mm) : Option (Mm ⊕ Int32) :=
  scr xs L (i + 1) fun t1 =>
  (fL_canFocus n Sh M x t1 out).bind fun r2 =>
  scr xs L (i + 1) fun t3 =>
  (fX7_canFocus n Sh r2.2 mm t3).bind fun r4 =>
  (fX7_thrown n Sh r4.2 mm).bind fun r5 =>
  if r5 = r2.1 then
    if r2.1 = 0 then
      aL Sh r4.2 out 0 fun y6 =>
      if r4.1 = 0 then
        if (y6 : Int64) = 0 then
          some (Sum.inl r4.2)
        else
          some (Sum.inr 0)
      else
        if (y6 : Int64) = 1 then
          some (Sum.inl r4.2)
        else
          some (Sum.inr 0)
    else
      some (Sum.inl r4.2)
  else
    some (Sum.inr 0)
set_option maxRecDepth 100000 in
set_option maxHeartbeats 4000000 in
theorem kL_c13 (C : CallFix p m c cL_law 7 s args GW RL) (hfl : l.stackTraces = false) (hK : KK G s) (hX : XE G s s.heap) (hN : NC s) (hb : G.1 ≤ s.heap.size) (hXs : va_X b L xs s s.heap) (hbl : b < s.heap.size) (hbA : ¬ AA G b) (hTx : Sh x = some (.inl 6)) (hTm : Sh mm = some (.inl 7)) {z : Mm ⊕ Int32} (h : fL_c13 n Sh xs L x mm out i M = some z) (hRc : cl + 8 ≤ room_1.cells ∧ sl + 48 ≤ room_1.slots) (hP : HM G Sh M H) (hS : va_S (AA G) s.heap H locs) (hl : lv_has ls 7 [(0, .ref b), (1, .ref x), (2, .ref mm), (3, .ref out), (4, .int i)]) (hno : ∀ q : Int32, z = .inr q → q = 1)
    (hk : ∀ (M1 : Mm) (H : Heap) (locs : List Loc) (ls : Array Slot), z = .inl M1 → HM G Sh M1 H → va_S (AA G) s.heap H locs → lv_has ls 7 [(0, .ref b), (1, .ref x), (2, .ref mm), (3, .ref out), (4, .int i)] → W p l e room_1 s m args below meth c H locs (cl + 8) (sl + 48) Q (F0 m 2033 ls [])) :
    W p l e room_1 s m args below meth c H locs cl sl Q (F0 m 998 ls []) := by
  have hR0 : cl + 0 ≤ room_1.cells ∧ sl + 0 ≤ room_1.slots := ⟨Nat.le_trans (Nat.le_add_right cl 8) hRc.1, Nat.le_trans (Nat.le_add_right sl 48) hRc.2⟩
  unfold fL_c13 at h
  refine lv_aload_n C.1 C.2.1 dL_law_998 rfl (lv_at hl 1 rfl) ?_
  refine lv_aload_n C.1 C.2.1 dL_law_999 rfl (lv_at hl 0 rfl) ?_
  refine lv_iload C.1 C.2.1 dL_law_1000 (lv_at hl 4 rfl) ?_
  refine lv_iconst (v := 1) C.1 C.2.1 dL_law_1002 (by decide) ?_
  refine lv_iadd C.1 C.2.1 dL_law_1003 ?_
  refine r_scr C hXs hbl hbA hS dL_law_1004 h (fun t1 h => ?_)
  refine lv_aload_n C.1 C.2.1 dL_law_1005 rfl (lv_at hl 3 rfl) ?_
  obtain ⟨r2, hc, h⟩ := bS h
  refine r_W (n := 3) C hK hX hN hb hP hS hl.1 (kL_canFocus hfl hc) wd_958 wd_960 wd_74 ⟨by decide +kernel, by decide +kernel, by decide +kernel⟩ wd_959 ⟨Nat.le_of_ble_eq_true rfl, Nat.le_of_ble_eq_true rfl⟩ (k1 := cl + 8) (k2 := sl + 48) ⟨Nat.add_le_add_left (Nat.le_of_ble_eq_true rfl) _, Nat.add_le_add_left (Nat.le_of_ble_eq_true rfl) _⟩ hRc rfl (rest := []) rfl (Nat.le_of_ble_eq_true rfl) dL_law_1006 (fun H locs hP hS => ?_)
  refine lv_istore (lv' := [(5, .int r2.1), (0, .ref b), (1, .ref x), (2, .ref mm), (3, .ref out), (4, .int i)]) C.1 C.2.1 dL_law_1009 hl (by decide) rfl (fun ls hl => ?_)
  refine lv_aload_n C.1 C.2.1 dL_law_1011 rfl (lv_at hl 3 rfl) ?_
  refine lv_aload_n C.1 C.2.1 dL_law_1012 rfl (lv_at hl 1 rfl) ?_
  refine lv_iload C.1 C.2.1 dL_law_1013 (lv_at hl 5 rfl) ?_
  refine lv_iconst (v := 1) C.1 C.2.1 dL_law_1015 (by decide) ?_
  refine lv_iadd C.1 C.2.1 dL_law_1016 ?_
  refine r_scr C hXs hbl hbA hS dL_law_1017 h (fun t3 h => ?_)
  obtain ⟨r4, hc, h⟩ := bS h
  refine r_V1 C hK hX hb hP ⟨hS, rfl⟩ hl.1 (kX7_canFocus hTm hc) hTm cl_7 wd_1382 mo_X7_canFocus wd_1383 wd_1384 ⟨Nat.le_of_ble_eq_true rfl, Nat.le_of_ble_eq_true rfl⟩ hRc rfl (rest := []) rfl (Nat.le_of_ble_eq_true rfl) dL_law_1018 (fun H locs hP hS => ?_)
  replace hS := hS.1
  refine W.widen (k := cl + 8) (n := sl + 48) (Nat.le_refl _) (Nat.le_refl _) ?_
  refine lv_istore (lv' := [(6, .int r4.1), (5, .int r2.1), (0, .ref b), (1, .ref x), (2, .ref mm), (3, .ref out), (4, .int i)]) C.1 C.2.1 dL_law_1021 hl (by decide) rfl (fun ls hl => ?_)
  refine lv_aload_n C.1 C.2.1 dL_law_1023 rfl (lv_at hl 4 rfl) ?_
  obtain ⟨r5, hc, h⟩ := bS h
  refine r_V1 C hK hX hb hP ⟨hS, rfl⟩ hl.1 (kX7_thrown hTm hc) hTm cl_7 wd_1182 mo_X7_thrown wd_1183 wd_1184 ⟨Nat.le_of_ble_eq_true rfl, Nat.le_of_ble_eq_true rfl⟩ hRc rfl (rest := []) rfl (Nat.le_of_ble_eq_true rfl) dL_law_1024 (fun H locs hP hS => ?_)
  replace hS := hS.1
  refine W.widen (k := cl + 8) (n := sl + 48) (Nat.le_refl _) (Nat.le_refl _) ?_
  refine lv_iload C.1 C.2.1 dL_law_1027 (lv_at hl 1 rfl) ?_
  refine b_ieq (tgt := 1034) C dL_law_1029 (by decide) h (fun h => ?_) (fun h => ?_)
  · refine lv_iload C.1 C.2.1 dL_law_1034 (lv_at hl 1 rfl) ?_
    refine b_ne (tgt := 1058) C dL_law_1036 (by decide) h (fun h => ?_) (fun h => ?_)
    · refine lv_aload_n C.1 C.2.1 dL_law_1039 rfl (lv_at hl 5 rfl) ?_
      refine lv_iconst (v := 0) C.1 C.2.1 dL_law_1040 (by decide) ?_
      refine r_aL C hK hP dL_law_1041 h (fun y6 h => ?_)
      refine lv_iload C.1 C.2.1 dL_law_1042 (lv_at hl 0 rfl) ?_
      refine b_eq (tgt := 1051) C dL_law_1044 (by decide) h (fun h => ?_) (fun h => ?_)
      · refine lv_lconst (v := 0) C.1 C.2.1 dL_law_1051 (by decide) ?_
        refine b_lcmp (tgt := 1058) C dL_law_1052 dL_law_1053 (by decide) h (fun h => ?_) (fun h => ?_)
        · refine lv_goto (tgt := 2033) C.1 C.2.1 dL_law_1058 (by decide) ?_
          have e := Option.some.inj h
          exact hk r4.2 _ _ _ e.symm hP hS (lv_sub hl [2, 3, 4, 5, 6] rfl)
        · exact absurd (hno 0 (Option.some.inj h).symm) (by decide)
      · refine lv_lconst (v := 1) C.1 C.2.1 dL_law_1047 (by decide) ?_
        refine lv_goto (tgt := 1052) C.1 C.2.1 dL_law_1048 (by decide) ?_
        refine b_lcmp (tgt := 1058) C dL_law_1052 dL_law_1053 (by decide) h (fun h => ?_) (fun h => ?_)
        · refine lv_goto (tgt := 2033) C.1 C.2.1 dL_law_1058 (by decide) ?_
          have e := Option.some.inj h
          exact hk r4.2 _ _ _ e.symm hP hS (lv_sub hl [2, 3, 4, 5, 6] rfl)
        · exact absurd (hno 0 (Option.some.inj h).symm) (by decide)
    · refine lv_goto (tgt := 2033) C.1 C.2.1 dL_law_1058 (by decide) ?_
      have e := Option.some.inj h
      exact hk r4.2 _ _ _ e.symm hP hS (lv_sub hl [2, 3, 4, 5, 6] rfl)
  · exact absurd (hno 0 (Option.some.inj h).symm) (by decide)
noncomputable def fL_c14 (n : Nat) (Sh : Sp) (xs : Nat → Int32) (L x mm out : Nat) (i : Int32) (M : Mm) : Option (Mm ⊕ Int32) :=
  scr xs L (i + 1) fun t1 =>
  (fX6_focusOrder n Sh M x t1).bind fun r2 =>
  scr xs L (i + 1) fun t3 =>
  (fX7_focusOrder n Sh r2.2 mm t3).bind fun r4 =>
  if r2.1 = r4.1 then
    some (Sum.inl r4.2)
  else
    some (Sum.inr 0)
set_option maxRecDepth 100000 in
set_option maxHeartbeats 4000000 in
theorem kL_c14 (C : CallFix p m c cL_law 7 s args GW RL) (hfl : l.stackTraces = false) (hK : KK G s) (hX : XE G s s.heap) (hN : NC s) (hb : G.1 ≤ s.heap.size) (hXs : va_X b L xs s s.heap) (hbl : b < s.heap.size) (hbA : ¬ AA G b) (hTx : Sh x = some (.inl 6)) (hTm : Sh mm = some (.inl 7)) {z : Mm ⊕ Int32} (h : fL_c14 n Sh xs L x mm out i M = some z) (hRc : cl + 8 ≤ room_1.cells ∧ sl + 48 ≤ room_1.slots) (hP : HM G Sh M H) (hS : va_S (AA G) s.heap H locs) (hl : lv_has ls 7 [(0, .ref b), (1, .ref x), (2, .ref mm), (3, .ref out), (4, .int i)]) (hno : ∀ q : Int32, z = .inr q → q = 1)
    (hk : ∀ (M1 : Mm) (H : Heap) (locs : List Loc) (ls : Array Slot), z = .inl M1 → HM G Sh M1 H → va_S (AA G) s.heap H locs → lv_has ls 7 [(0, .ref b), (1, .ref x), (2, .ref mm), (3, .ref out), (4, .int i)] → W p l e room_1 s m args below meth c H locs (cl + 8) (sl + 48) Q (F0 m 2033 ls [])) :
    W p l e room_1 s m args below meth c H locs cl sl Q (F0 m 1061 ls []) := by
  have hR0 : cl + 0 ≤ room_1.cells ∧ sl + 0 ≤ room_1.slots := ⟨Nat.le_trans (Nat.le_add_right cl 8) hRc.1, Nat.le_trans (Nat.le_add_right sl 48) hRc.2⟩
  unfold fL_c14 at h
  refine lv_aload_n C.1 C.2.1 dL_law_1061 rfl (lv_at hl 1 rfl) ?_
  refine lv_aload_n C.1 C.2.1 dL_law_1062 rfl (lv_at hl 0 rfl) ?_
  refine lv_iload C.1 C.2.1 dL_law_1063 (lv_at hl 4 rfl) ?_
  refine lv_iconst (v := 1) C.1 C.2.1 dL_law_1065 (by decide) ?_
  refine lv_iadd C.1 C.2.1 dL_law_1066 ?_
  refine r_scr C hXs hbl hbA hS dL_law_1067 h (fun t1 h => ?_)
  obtain ⟨r2, hc, h⟩ := bS h
  refine r_V1 C hK hX hb hP ⟨hS, rfl⟩ hl.1 (kX6_focusOrder hTx hc) hTx cl_6 wd_329 mo_X6_focusOrder wd_330 wd_331 ⟨Nat.le_of_ble_eq_true rfl, Nat.le_of_ble_eq_true rfl⟩ hR0 rfl (rest := []) rfl (Nat.le_of_ble_eq_true rfl) dL_law_1068 (fun H locs hP hS => ?_)
  replace hS := hS.1
  refine W.widen (k := cl) (n := sl) (Nat.le_refl _) (Nat.le_refl _) ?_
  refine lv_aload_n C.1 C.2.1 dL_law_1071 rfl (lv_at hl 2 rfl) ?_
  refine lv_aload_n C.1 C.2.1 dL_law_1072 rfl (lv_at hl 0 rfl) ?_
  refine lv_iload C.1 C.2.1 dL_law_1073 (lv_at hl 4 rfl) ?_
  refine lv_iconst (v := 1) C.1 C.2.1 dL_law_1075 (by decide) ?_
  refine lv_iadd C.1 C.2.1 dL_law_1076 ?_
  refine r_scr C hXs hbl hbA hS dL_law_1077 h (fun t3 h => ?_)
  obtain ⟨r4, hc, h⟩ := bS h
  refine r_V1 C hK hX hb hP ⟨hS, rfl⟩ hl.1 (kX7_focusOrder hTm hc) hTm cl_7 wd_1394 mo_X7_focusOrder wd_1395 wd_1396 ⟨Nat.le_of_ble_eq_true rfl, Nat.le_of_ble_eq_true rfl⟩ hR0 rfl (rest := [.int r2.1]) rfl (Nat.le_of_ble_eq_true rfl) dL_law_1078 (fun H locs hP hS => ?_)
  replace hS := hS.1
  refine W.widen (k := cl) (n := sl) (Nat.le_refl _) (Nat.le_refl _) ?_
  refine b_ieq (tgt := 2033) C dL_law_1081 (by decide) h (fun h => ?_) (fun h => ?_)
  · have e := Option.some.inj h
    refine W.widen (k := cl + 8) (n := sl + 48) (Nat.le_add_right _ _) (Nat.le_add_right _ _) ?_
    exact hk r4.2 _ _ _ e.symm hP hS (lv_sub hl [0, 1, 2, 3, 4] rfl)
  · exact absurd (hno 0 (Option.some.inj h).symm) (by decide)
noncomputable def fL_c15 (n : Nat) (Sh : Sp) (xs : Nat → Int32) (L x mm out : Nat) (i : Int32) (M : Mm) : Option (Mm ⊕ Int32) :=
  (fX6_focus n Sh M x).bind fun r1 =>
  (fX7_focus n Sh M mm).bind fun r2 =>
  if r1 = r2.1 then
    some (Sum.inl r2.2)
  else
    some (Sum.inr 0)
set_option maxRecDepth 100000 in
set_option maxHeartbeats 4000000 in
theorem kL_c15 (C : CallFix p m c cL_law 7 s args GW RL) (hfl : l.stackTraces = false) (hK : KK G s) (hX : XE G s s.heap) (hN : NC s) (hb : G.1 ≤ s.heap.size) (hXs : va_X b L xs s s.heap) (hbl : b < s.heap.size) (hbA : ¬ AA G b) (hTx : Sh x = some (.inl 6)) (hTm : Sh mm = some (.inl 7)) {z : Mm ⊕ Int32} (h : fL_c15 n Sh xs L x mm out i M = some z) (hRc : cl + 8 ≤ room_1.cells ∧ sl + 48 ≤ room_1.slots) (hP : HM G Sh M H) (hS : va_S (AA G) s.heap H locs) (hl : lv_has ls 7 [(0, .ref b), (1, .ref x), (2, .ref mm), (3, .ref out), (4, .int i)]) (hno : ∀ q : Int32, z = .inr q → q = 1)
    (hk : ∀ (M1 : Mm) (H : Heap) (locs : List Loc) (ls : Array Slot), z = .inl M1 → HM G Sh M1 H → va_S (AA G) s.heap H locs → lv_has ls 7 [(0, .ref b), (1, .ref x), (2, .ref mm), (3, .ref out), (4, .int i)] → W p l e room_1 s m args below meth c H locs (cl + 8) (sl + 48) Q (F0 m 2033 ls [])) :
    W p l e room_1 s m args below meth c H locs cl sl Q (F0 m 1086 ls []) := by
  have hR0 : cl + 0 ≤ room_1.cells ∧ sl + 0 ≤ room_1.slots := ⟨Nat.le_trans (Nat.le_add_right cl 8) hRc.1, Nat.le_trans (Nat.le_add_right sl 48) hRc.2⟩
  unfold fL_c15 at h
  refine lv_aload_n C.1 C.2.1 dL_law_1086 rfl (lv_at hl 1 rfl) ?_
  obtain ⟨r1, hc, h⟩ := bS h
  refine r_V1 C hK hX hb hP ⟨hS, rfl⟩ hl.1 (kX6_focus hTx hc) hTx cl_6 wd_378 mo_X6_focus wd_379 wd_380 ⟨Nat.le_of_ble_eq_true rfl, Nat.le_of_ble_eq_true rfl⟩ hR0 rfl (rest := []) rfl (Nat.le_of_ble_eq_true rfl) dL_law_1087 (fun H locs hP hS => ?_)
  replace hS := hS.1
  refine W.widen (k := cl) (n := sl) (Nat.le_refl _) (Nat.le_refl _) ?_
  refine lv_aload_n C.1 C.2.1 dL_law_1090 rfl (lv_at hl 2 rfl) ?_
  obtain ⟨r2, hc, h⟩ := bS h
  refine r_V1 C hK hX hb hP ⟨hS, rfl⟩ hl.1 (kX7_focus hTm hc) hTm cl_7 wd_1402 mo_X7_focus wd_1403 wd_1404 ⟨Nat.le_of_ble_eq_true rfl, Nat.le_of_ble_eq_true rfl⟩ hR0 rfl (rest := [.int r1]) rfl (Nat.le_of_ble_eq_true rfl) dL_law_1091 (fun H locs hP hS => ?_)
  replace hS := hS.1
  refine W.widen (k := cl) (n := sl) (Nat.le_refl _) (Nat.le_refl _) ?_
  refine b_ieq (tgt := 2033) C dL_law_1094 (by decide) h (fun h => ?_) (fun h => ?_)
  · have e := Option.some.inj h
    refine W.widen (k := cl + 8) (n := sl + 48) (Nat.le_add_right _ _) (Nat.le_add_right _ _) ?_
    exact hk r2.2 _ _ _ e.symm hP hS (lv_sub hl [0, 1, 2, 3, 4] rfl)
  · exact absurd (hno 0 (Option.some.inj h).symm) (by decide)
noncomputable def fL_c16 (n : Nat) (Sh : Sp) (xs : Nat → Int32) (L x mm out : Nat) (i : Int32) (M : Mm) : Option (Mm ⊕ Int32) :=
  scr xs L (i + 1) fun t1 =>
  (fL_focusOn n Sh M x t1 out).bind fun r2 =>
  scr xs L (i + 1) fun t3 =>
  (fX7_focusOn n Sh r2.2 mm t3).bind fun r4 =>
  (fX7_thrown n Sh r4.2 mm).bind fun r5 =>
  if r5 = r2.1 then
    if r2.1 = 0 then
      aL Sh r4.2 out 0 fun y6 =>
      if (y6 : Int64) = (Int32.toInt64 r4.1) then
        some (Sum.inl r4.2)
      else
        some (Sum.inr 0)
    else
      some (Sum.inl r4.2)
  else
    some (Sum.inr 0)
set_option maxRecDepth 100000 in
set_option maxHeartbeats 4000000 in
theorem kL_c16 (C : CallFix p m c cL_law 7 s args GW RL) (hfl : l.stackTraces = false) (hK : KK G s) (hX : XE G s s.heap) (hN : NC s) (hb : G.1 ≤ s.heap.size) (hXs : va_X b L xs s s.heap) (hbl : b < s.heap.size) (hbA : ¬ AA G b) (hTx : Sh x = some (.inl 6)) (hTm : Sh mm = some (.inl 7)) {z : Mm ⊕ Int32} (h : fL_c16 n Sh xs L x mm out i M = some z) (hRc : cl + 8 ≤ room_1.cells ∧ sl + 48 ≤ room_1.slots) (hP : HM G Sh M H) (hS : va_S (AA G) s.heap H locs) (hl : lv_has ls 7 [(0, .ref b), (1, .ref x), (2, .ref mm), (3, .ref out), (4, .int i)]) (hno : ∀ q : Int32, z = .inr q → q = 1)
    (hk : ∀ (M1 : Mm) (H : Heap) (locs : List Loc) (ls : Array Slot), z = .inl M1 → HM G Sh M1 H → va_S (AA G) s.heap H locs → lv_has ls 7 [(0, .ref b), (1, .ref x), (2, .ref mm), (3, .ref out), (4, .int i)] → W p l e room_1 s m args below meth c H locs (cl + 8) (sl + 48) Q (F0 m 2033 ls [])) :
    W p l e room_1 s m args below meth c H locs cl sl Q (F0 m 1099 ls []) := by
  have hR0 : cl + 0 ≤ room_1.cells ∧ sl + 0 ≤ room_1.slots := ⟨Nat.le_trans (Nat.le_add_right cl 8) hRc.1, Nat.le_trans (Nat.le_add_right sl 48) hRc.2⟩
  unfold fL_c16 at h
  refine lv_aload_n C.1 C.2.1 dL_law_1099 rfl (lv_at hl 1 rfl) ?_
  refine lv_aload_n C.1 C.2.1 dL_law_1100 rfl (lv_at hl 0 rfl) ?_
  refine lv_iload C.1 C.2.1 dL_law_1101 (lv_at hl 4 rfl) ?_
  refine lv_iconst (v := 1) C.1 C.2.1 dL_law_1103 (by decide) ?_
  refine lv_iadd C.1 C.2.1 dL_law_1104 ?_
  refine r_scr C hXs hbl hbA hS dL_law_1105 h (fun t1 h => ?_)
  refine lv_aload_n C.1 C.2.1 dL_law_1106 rfl (lv_at hl 3 rfl) ?_
  obtain ⟨r2, hc, h⟩ := bS h
  refine r_W (n := 3) C hK hX hN hb hP hS hl.1 (kL_focusOn hfl hc) wd_966 wd_968 wd_74 ⟨by decide +kernel, by decide +kernel, by decide +kernel⟩ wd_967 ⟨Nat.le_of_ble_eq_true rfl, Nat.le_of_ble_eq_true rfl⟩ (k1 := cl + 8) (k2 := sl + 48) ⟨Nat.add_le_add_left (Nat.le_of_ble_eq_true rfl) _, Nat.add_le_add_left (Nat.le_of_ble_eq_true rfl) _⟩ hRc rfl (rest := []) rfl (Nat.le_of_ble_eq_true rfl) dL_law_1107 (fun H locs hP hS => ?_)
  refine lv_istore (lv' := [(5, .int r2.1), (0, .ref b), (1, .ref x), (2, .ref mm), (3, .ref out), (4, .int i)]) C.1 C.2.1 dL_law_1110 hl (by decide) rfl (fun ls hl => ?_)
  refine lv_aload_n C.1 C.2.1 dL_law_1112 rfl (lv_at hl 3 rfl) ?_
  refine lv_aload_n C.1 C.2.1 dL_law_1113 rfl (lv_at hl 1 rfl) ?_
  refine lv_iload C.1 C.2.1 dL_law_1114 (lv_at hl 5 rfl) ?_
  refine lv_iconst (v := 1) C.1 C.2.1 dL_law_1116 (by decide) ?_
  refine lv_iadd C.1 C.2.1 dL_law_1117 ?_
  refine r_scr C hXs hbl hbA hS dL_law_1118 h (fun t3 h => ?_)
  obtain ⟨r4, hc, h⟩ := bS h
  refine r_V1 C hK hX hb hP ⟨hS, rfl⟩ hl.1 (kX7_focusOn hTm hc) hTm cl_7 wd_1410 mo_X7_focusOn wd_1411 wd_1412 ⟨Nat.le_of_ble_eq_true rfl, Nat.le_of_ble_eq_true rfl⟩ hRc rfl (rest := []) rfl (Nat.le_of_ble_eq_true rfl) dL_law_1119 (fun H locs hP hS => ?_)
  replace hS := hS.1
  refine W.widen (k := cl + 8) (n := sl + 48) (Nat.le_refl _) (Nat.le_refl _) ?_
  refine lv_istore (lv' := [(6, .int r4.1), (5, .int r2.1), (0, .ref b), (1, .ref x), (2, .ref mm), (3, .ref out), (4, .int i)]) C.1 C.2.1 dL_law_1122 hl (by decide) rfl (fun ls hl => ?_)
  refine lv_aload_n C.1 C.2.1 dL_law_1124 rfl (lv_at hl 4 rfl) ?_
  obtain ⟨r5, hc, h⟩ := bS h
  refine r_V1 C hK hX hb hP ⟨hS, rfl⟩ hl.1 (kX7_thrown hTm hc) hTm cl_7 wd_1182 mo_X7_thrown wd_1183 wd_1184 ⟨Nat.le_of_ble_eq_true rfl, Nat.le_of_ble_eq_true rfl⟩ hRc rfl (rest := []) rfl (Nat.le_of_ble_eq_true rfl) dL_law_1125 (fun H locs hP hS => ?_)
  replace hS := hS.1
  refine W.widen (k := cl + 8) (n := sl + 48) (Nat.le_refl _) (Nat.le_refl _) ?_
  refine lv_iload C.1 C.2.1 dL_law_1128 (lv_at hl 1 rfl) ?_
  refine b_ieq (tgt := 1135) C dL_law_1130 (by decide) h (fun h => ?_) (fun h => ?_)
  · refine lv_iload C.1 C.2.1 dL_law_1135 (lv_at hl 1 rfl) ?_
    refine b_ne (tgt := 1152) C dL_law_1137 (by decide) h (fun h => ?_) (fun h => ?_)
    · refine lv_aload_n C.1 C.2.1 dL_law_1140 rfl (lv_at hl 5 rfl) ?_
      refine lv_iconst (v := 0) C.1 C.2.1 dL_law_1141 (by decide) ?_
      refine r_aL C hK hP dL_law_1142 h (fun y6 h => ?_)
      refine lv_iload C.1 C.2.1 dL_law_1143 (lv_at hl 0 rfl) ?_
      refine lv_i2l C.1 C.2.1 dL_law_1145 rfl ?_
      refine b_lcmp (tgt := 1152) C dL_law_1146 dL_law_1147 (by decide) h (fun h => ?_) (fun h => ?_)
      · refine lv_goto (tgt := 2033) C.1 C.2.1 dL_law_1152 (by decide) ?_
        have e := Option.some.inj h
        exact hk r4.2 _ _ _ e.symm hP hS (lv_sub hl [2, 3, 4, 5, 6] rfl)
      · exact absurd (hno 0 (Option.some.inj h).symm) (by decide)
    · refine lv_goto (tgt := 2033) C.1 C.2.1 dL_law_1152 (by decide) ?_
      have e := Option.some.inj h
      exact hk r4.2 _ _ _ e.symm hP hS (lv_sub hl [2, 3, 4, 5, 6] rfl)
  · exact absurd (hno 0 (Option.some.inj h).symm) (by decide)
noncomputable def fL_c17 (n : Nat) (Sh : Sp) (xs : Nat → Int32) (L x mm out : Nat) (i : Int32) (M : Mm) : Option (Mm ⊕ Int32) :=
  scr xs L (i + 1) fun t1 =>
  if t1 = 0 then
    (fX6_step n Sh M x 0).bind fun r2 =>
    scr xs L (i + 1) fun t3 =>
    if t3 = 0 then
      (fX7_step n Sh r2.2 mm 0).bind fun r4 =>
      if r2.1 = r4.1 then
        some (Sum.inl r4.2)
      else
        some (Sum.inr 0)
    else
      (fX7_step n Sh r2.2 mm 1).bind fun r5 =>
      if r2.1 = r5.1 then
        some (Sum.inl r5.2)
      else
        some (Sum.inr 0)
  else
    (fX6_step n Sh M x 1).bind fun r6 =>
    scr xs L (i + 1) fun t7 =>
    if t7 = 0 then
      (fX7_step n Sh r6.2 mm 0).bind fun r8 =>
      if r6.1 = r8.1 then
        some (Sum.inl r8.2)
      else
        some (Sum.inr 0)
    else
      (fX7_step n Sh r6.2 mm 1).bind fun r9 =>
      if r6.1 = r9.1 then
        some (Sum.inl r9.2)
      else
        some (Sum.inr 0)
set_option maxRecDepth 100000 in
set_option maxHeartbeats 4000000 in
theorem kL_c17 (C : CallFix p m c cL_law 7 s args GW RL) (hfl : l.stackTraces = false) (hK : KK G s) (hX : XE G s s.heap) (hN : NC s) (hb : G.1 ≤ s.heap.size) (hXs : va_X b L xs s s.heap) (hbl : b < s.heap.size) (hbA : ¬ AA G b) (hTx : Sh x = some (.inl 6)) (hTm : Sh mm = some (.inl 7)) {z : Mm ⊕ Int32} (h : fL_c17 n Sh xs L x mm out i M = some z) (hRc : cl + 8 ≤ room_1.cells ∧ sl + 48 ≤ room_1.slots) (hP : HM G Sh M H) (hS : va_S (AA G) s.heap H locs) (hl : lv_has ls 7 [(0, .ref b), (1, .ref x), (2, .ref mm), (3, .ref out), (4, .int i)]) (hno : ∀ q : Int32, z = .inr q → q = 1)
    (hk : ∀ (M1 : Mm) (H : Heap) (locs : List Loc) (ls : Array Slot), z = .inl M1 → HM G Sh M1 H → va_S (AA G) s.heap H locs → lv_has ls 7 [(0, .ref b), (1, .ref x), (2, .ref mm), (3, .ref out), (4, .int i)] → W p l e room_1 s m args below meth c H locs (cl + 8) (sl + 48) Q (F0 m 2033 ls [])) :
    W p l e room_1 s m args below meth c H locs cl sl Q (F0 m 1155 ls []) := by
  have hR0 : cl + 0 ≤ room_1.cells ∧ sl + 0 ≤ room_1.slots := ⟨Nat.le_trans (Nat.le_add_right cl 8) hRc.1, Nat.le_trans (Nat.le_add_right sl 48) hRc.2⟩
  unfold fL_c17 at h
  refine lv_aload_n C.1 C.2.1 dL_law_1155 rfl (lv_at hl 1 rfl) ?_
  refine lv_aload_n C.1 C.2.1 dL_law_1156 rfl (lv_at hl 0 rfl) ?_
  refine lv_iload C.1 C.2.1 dL_law_1157 (lv_at hl 4 rfl) ?_
  refine lv_iconst (v := 1) C.1 C.2.1 dL_law_1159 (by decide) ?_
  refine lv_iadd C.1 C.2.1 dL_law_1160 ?_
  refine r_scr C hXs hbl hbA hS dL_law_1161 h (fun t1 h => ?_)
  refine b_eq (tgt := 1169) C dL_law_1162 (by decide) h (fun h => ?_) (fun h => ?_)
  · refine lv_iconst (v := 0) C.1 C.2.1 dL_law_1169 (by decide) ?_
    obtain ⟨r2, hc, h⟩ := bS h
    refine r_V1 C hK hX hb hP ⟨hS, rfl⟩ hl.1 (kX6_step hTx hc) hTx cl_6 wd_390 mo_X6_step wd_391 wd_392 ⟨Nat.le_of_ble_eq_true rfl, Nat.le_of_ble_eq_true rfl⟩ hR0 rfl (rest := []) rfl (Nat.le_of_ble_eq_true rfl) dL_law_1170 (fun H locs hP hS => ?_)
    replace hS := hS.1
    refine W.widen (k := cl) (n := sl) (Nat.le_refl _) (Nat.le_refl _) ?_
    refine lv_aload_n C.1 C.2.1 dL_law_1173 rfl (lv_at hl 2 rfl) ?_
    refine lv_aload_n C.1 C.2.1 dL_law_1174 rfl (lv_at hl 0 rfl) ?_
    refine lv_iload C.1 C.2.1 dL_law_1175 (lv_at hl 4 rfl) ?_
    refine lv_iconst (v := 1) C.1 C.2.1 dL_law_1177 (by decide) ?_
    refine lv_iadd C.1 C.2.1 dL_law_1178 ?_
    refine r_scr C hXs hbl hbA hS dL_law_1179 h (fun t3 h => ?_)
    refine b_eq (tgt := 1187) C dL_law_1180 (by decide) h (fun h => ?_) (fun h => ?_)
    · refine lv_iconst (v := 0) C.1 C.2.1 dL_law_1187 (by decide) ?_
      obtain ⟨r4, hc, h⟩ := bS h
      refine r_V1 C hK hX hb hP ⟨hS, rfl⟩ hl.1 (kX7_step hTm hc) hTm cl_7 wd_1422 mo_X7_step wd_1423 wd_1424 ⟨Nat.le_of_ble_eq_true rfl, Nat.le_of_ble_eq_true rfl⟩ hR0 rfl (rest := [.int r2.1]) rfl (Nat.le_of_ble_eq_true rfl) dL_law_1188 (fun H locs hP hS => ?_)
      replace hS := hS.1
      refine W.widen (k := cl) (n := sl) (Nat.le_refl _) (Nat.le_refl _) ?_
      refine b_ieq (tgt := 2033) C dL_law_1191 (by decide) h (fun h => ?_) (fun h => ?_)
      · have e := Option.some.inj h
        refine W.widen (k := cl + 8) (n := sl + 48) (Nat.le_add_right _ _) (Nat.le_add_right _ _) ?_
        exact hk r4.2 _ _ _ e.symm hP hS (lv_sub hl [0, 1, 2, 3, 4] rfl)
      · exact absurd (hno 0 (Option.some.inj h).symm) (by decide)
    · refine lv_iconst (v := 1) C.1 C.2.1 dL_law_1183 (by decide) ?_
      refine lv_goto (tgt := 1188) C.1 C.2.1 dL_law_1184 (by decide) ?_
      obtain ⟨r5, hc, h⟩ := bS h
      refine r_V1 C hK hX hb hP ⟨hS, rfl⟩ hl.1 (kX7_step hTm hc) hTm cl_7 wd_1422 mo_X7_step wd_1423 wd_1424 ⟨Nat.le_of_ble_eq_true rfl, Nat.le_of_ble_eq_true rfl⟩ hR0 rfl (rest := [.int r2.1]) rfl (Nat.le_of_ble_eq_true rfl) dL_law_1188 (fun H locs hP hS => ?_)
      replace hS := hS.1
      refine W.widen (k := cl) (n := sl) (Nat.le_refl _) (Nat.le_refl _) ?_
      refine b_ieq (tgt := 2033) C dL_law_1191 (by decide) h (fun h => ?_) (fun h => ?_)
      · have e := Option.some.inj h
        refine W.widen (k := cl + 8) (n := sl + 48) (Nat.le_add_right _ _) (Nat.le_add_right _ _) ?_
        exact hk r5.2 _ _ _ e.symm hP hS (lv_sub hl [0, 1, 2, 3, 4] rfl)
      · exact absurd (hno 0 (Option.some.inj h).symm) (by decide)
  · refine lv_iconst (v := 1) C.1 C.2.1 dL_law_1165 (by decide) ?_
    refine lv_goto (tgt := 1170) C.1 C.2.1 dL_law_1166 (by decide) ?_
    obtain ⟨r6, hc, h⟩ := bS h
    refine r_V1 C hK hX hb hP ⟨hS, rfl⟩ hl.1 (kX6_step hTx hc) hTx cl_6 wd_390 mo_X6_step wd_391 wd_392 ⟨Nat.le_of_ble_eq_true rfl, Nat.le_of_ble_eq_true rfl⟩ hR0 rfl (rest := []) rfl (Nat.le_of_ble_eq_true rfl) dL_law_1170 (fun H locs hP hS => ?_)
    replace hS := hS.1
    refine W.widen (k := cl) (n := sl) (Nat.le_refl _) (Nat.le_refl _) ?_
    refine lv_aload_n C.1 C.2.1 dL_law_1173 rfl (lv_at hl 2 rfl) ?_
    refine lv_aload_n C.1 C.2.1 dL_law_1174 rfl (lv_at hl 0 rfl) ?_
    refine lv_iload C.1 C.2.1 dL_law_1175 (lv_at hl 4 rfl) ?_
    refine lv_iconst (v := 1) C.1 C.2.1 dL_law_1177 (by decide) ?_
    refine lv_iadd C.1 C.2.1 dL_law_1178 ?_
    refine r_scr C hXs hbl hbA hS dL_law_1179 h (fun t7 h => ?_)
    refine b_eq (tgt := 1187) C dL_law_1180 (by decide) h (fun h => ?_) (fun h => ?_)
    · refine lv_iconst (v := 0) C.1 C.2.1 dL_law_1187 (by decide) ?_
      obtain ⟨r8, hc, h⟩ := bS h
      refine r_V1 C hK hX hb hP ⟨hS, rfl⟩ hl.1 (kX7_step hTm hc) hTm cl_7 wd_1422 mo_X7_step wd_1423 wd_1424 ⟨Nat.le_of_ble_eq_true rfl, Nat.le_of_ble_eq_true rfl⟩ hR0 rfl (rest := [.int r6.1]) rfl (Nat.le_of_ble_eq_true rfl) dL_law_1188 (fun H locs hP hS => ?_)
      replace hS := hS.1
      refine W.widen (k := cl) (n := sl) (Nat.le_refl _) (Nat.le_refl _) ?_
      refine b_ieq (tgt := 2033) C dL_law_1191 (by decide) h (fun h => ?_) (fun h => ?_)
      · have e := Option.some.inj h
        refine W.widen (k := cl + 8) (n := sl + 48) (Nat.le_add_right _ _) (Nat.le_add_right _ _) ?_
        exact hk r8.2 _ _ _ e.symm hP hS (lv_sub hl [0, 1, 2, 3, 4] rfl)
      · exact absurd (hno 0 (Option.some.inj h).symm) (by decide)
    · refine lv_iconst (v := 1) C.1 C.2.1 dL_law_1183 (by decide) ?_
      refine lv_goto (tgt := 1188) C.1 C.2.1 dL_law_1184 (by decide) ?_
      obtain ⟨r9, hc, h⟩ := bS h
      refine r_V1 C hK hX hb hP ⟨hS, rfl⟩ hl.1 (kX7_step hTm hc) hTm cl_7 wd_1422 mo_X7_step wd_1423 wd_1424 ⟨Nat.le_of_ble_eq_true rfl, Nat.le_of_ble_eq_true rfl⟩ hR0 rfl (rest := [.int r6.1]) rfl (Nat.le_of_ble_eq_true rfl) dL_law_1188 (fun H locs hP hS => ?_)
      replace hS := hS.1
      refine W.widen (k := cl) (n := sl) (Nat.le_refl _) (Nat.le_refl _) ?_
      refine b_ieq (tgt := 2033) C dL_law_1191 (by decide) h (fun h => ?_) (fun h => ?_)
      · have e := Option.some.inj h
        refine W.widen (k := cl + 8) (n := sl + 48) (Nat.le_add_right _ _) (Nat.le_add_right _ _) ?_
        exact hk r9.2 _ _ _ e.symm hP hS (lv_sub hl [0, 1, 2, 3, 4] rfl)
      · exact absurd (hno 0 (Option.some.inj h).symm) (by decide)
noncomputable def fL_c18 (n : Nat) (Sh : Sp) (xs : Nat → Int32) (L x mm out : Nat) (i : Int32) (M : Mm) : Option (Mm ⊕ Int32) :=
  scr xs L (i + 1) fun t1 =>
  (fL_open n Sh M x t1 out).bind fun r2 =>
  scr xs L (i + 1) fun t3 =>
  (fX7_open n Sh r2.2 mm t3).bind fun r4 =>
  (fX7_thrown n Sh r4.2 mm).bind fun r5 =>
  if r5 = r2.1 then
    if r2.1 = 0 then
      aL Sh r4.2 out 0 fun y6 =>
      if (y6 : Int64) = (Int32.toInt64 r4.1) then
        some (Sum.inl r4.2)
      else
        some (Sum.inr 0)
    else
      some (Sum.inl r4.2)
  else
    some (Sum.inr 0)
set_option maxRecDepth 100000 in
set_option maxHeartbeats 4000000 in
theorem kL_c18 (C : CallFix p m c cL_law 7 s args GW RL) (hfl : l.stackTraces = false) (hK : KK G s) (hX : XE G s s.heap) (hN : NC s) (hb : G.1 ≤ s.heap.size) (hXs : va_X b L xs s s.heap) (hbl : b < s.heap.size) (hbA : ¬ AA G b) (hTx : Sh x = some (.inl 6)) (hTm : Sh mm = some (.inl 7)) {z : Mm ⊕ Int32} (h : fL_c18 n Sh xs L x mm out i M = some z) (hRc : cl + 8 ≤ room_1.cells ∧ sl + 48 ≤ room_1.slots) (hP : HM G Sh M H) (hS : va_S (AA G) s.heap H locs) (hl : lv_has ls 7 [(0, .ref b), (1, .ref x), (2, .ref mm), (3, .ref out), (4, .int i)]) (hno : ∀ q : Int32, z = .inr q → q = 1)
    (hk : ∀ (M1 : Mm) (H : Heap) (locs : List Loc) (ls : Array Slot), z = .inl M1 → HM G Sh M1 H → va_S (AA G) s.heap H locs → lv_has ls 7 [(0, .ref b), (1, .ref x), (2, .ref mm), (3, .ref out), (4, .int i)] → W p l e room_1 s m args below meth c H locs (cl + 8) (sl + 48) Q (F0 m 2033 ls [])) :
    W p l e room_1 s m args below meth c H locs cl sl Q (F0 m 1196 ls []) := by
  have hR0 : cl + 0 ≤ room_1.cells ∧ sl + 0 ≤ room_1.slots := ⟨Nat.le_trans (Nat.le_add_right cl 8) hRc.1, Nat.le_trans (Nat.le_add_right sl 48) hRc.2⟩
  unfold fL_c18 at h
  refine lv_aload_n C.1 C.2.1 dL_law_1196 rfl (lv_at hl 1 rfl) ?_
  refine lv_aload_n C.1 C.2.1 dL_law_1197 rfl (lv_at hl 0 rfl) ?_
  refine lv_iload C.1 C.2.1 dL_law_1198 (lv_at hl 4 rfl) ?_
  refine lv_iconst (v := 1) C.1 C.2.1 dL_law_1200 (by decide) ?_
  refine lv_iadd C.1 C.2.1 dL_law_1201 ?_
  refine r_scr C hXs hbl hbA hS dL_law_1202 h (fun t1 h => ?_)
  refine lv_aload_n C.1 C.2.1 dL_law_1203 rfl (lv_at hl 3 rfl) ?_
  obtain ⟨r2, hc, h⟩ := bS h
  refine r_W (n := 3) C hK hX hN hb hP hS hl.1 (kL_open hfl hc) wd_974 wd_976 wd_74 ⟨by decide +kernel, by decide +kernel, by decide +kernel⟩ wd_975 ⟨Nat.le_of_ble_eq_true rfl, Nat.le_of_ble_eq_true rfl⟩ (k1 := cl + 8) (k2 := sl + 48) ⟨Nat.add_le_add_left (Nat.le_of_ble_eq_true rfl) _, Nat.add_le_add_left (Nat.le_of_ble_eq_true rfl) _⟩ hRc rfl (rest := []) rfl (Nat.le_of_ble_eq_true rfl) dL_law_1204 (fun H locs hP hS => ?_)
  refine lv_istore (lv' := [(5, .int r2.1), (0, .ref b), (1, .ref x), (2, .ref mm), (3, .ref out), (4, .int i)]) C.1 C.2.1 dL_law_1207 hl (by decide) rfl (fun ls hl => ?_)
  refine lv_aload_n C.1 C.2.1 dL_law_1209 rfl (lv_at hl 3 rfl) ?_
  refine lv_aload_n C.1 C.2.1 dL_law_1210 rfl (lv_at hl 1 rfl) ?_
  refine lv_iload C.1 C.2.1 dL_law_1211 (lv_at hl 5 rfl) ?_
  refine lv_iconst (v := 1) C.1 C.2.1 dL_law_1213 (by decide) ?_
  refine lv_iadd C.1 C.2.1 dL_law_1214 ?_
  refine r_scr C hXs hbl hbA hS dL_law_1215 h (fun t3 h => ?_)
  obtain ⟨r4, hc, h⟩ := bS h
  refine r_V1 C hK hX hb hP ⟨hS, rfl⟩ hl.1 (kX7_open hTm hc) hTm cl_7 wd_1426 mo_X7_open wd_1427 wd_1428 ⟨Nat.le_of_ble_eq_true rfl, Nat.le_of_ble_eq_true rfl⟩ hRc rfl (rest := []) rfl (Nat.le_of_ble_eq_true rfl) dL_law_1216 (fun H locs hP hS => ?_)
  replace hS := hS.1
  refine W.widen (k := cl + 8) (n := sl + 48) (Nat.le_refl _) (Nat.le_refl _) ?_
  refine lv_istore (lv' := [(6, .int r4.1), (5, .int r2.1), (0, .ref b), (1, .ref x), (2, .ref mm), (3, .ref out), (4, .int i)]) C.1 C.2.1 dL_law_1219 hl (by decide) rfl (fun ls hl => ?_)
  refine lv_aload_n C.1 C.2.1 dL_law_1221 rfl (lv_at hl 4 rfl) ?_
  obtain ⟨r5, hc, h⟩ := bS h
  refine r_V1 C hK hX hb hP ⟨hS, rfl⟩ hl.1 (kX7_thrown hTm hc) hTm cl_7 wd_1182 mo_X7_thrown wd_1183 wd_1184 ⟨Nat.le_of_ble_eq_true rfl, Nat.le_of_ble_eq_true rfl⟩ hRc rfl (rest := []) rfl (Nat.le_of_ble_eq_true rfl) dL_law_1222 (fun H locs hP hS => ?_)
  replace hS := hS.1
  refine W.widen (k := cl + 8) (n := sl + 48) (Nat.le_refl _) (Nat.le_refl _) ?_
  refine lv_iload C.1 C.2.1 dL_law_1225 (lv_at hl 1 rfl) ?_
  refine b_ieq (tgt := 1232) C dL_law_1227 (by decide) h (fun h => ?_) (fun h => ?_)
  · refine lv_iload C.1 C.2.1 dL_law_1232 (lv_at hl 1 rfl) ?_
    refine b_ne (tgt := 1249) C dL_law_1234 (by decide) h (fun h => ?_) (fun h => ?_)
    · refine lv_aload_n C.1 C.2.1 dL_law_1237 rfl (lv_at hl 5 rfl) ?_
      refine lv_iconst (v := 0) C.1 C.2.1 dL_law_1238 (by decide) ?_
      refine r_aL C hK hP dL_law_1239 h (fun y6 h => ?_)
      refine lv_iload C.1 C.2.1 dL_law_1240 (lv_at hl 0 rfl) ?_
      refine lv_i2l C.1 C.2.1 dL_law_1242 rfl ?_
      refine b_lcmp (tgt := 1249) C dL_law_1243 dL_law_1244 (by decide) h (fun h => ?_) (fun h => ?_)
      · refine lv_goto (tgt := 2033) C.1 C.2.1 dL_law_1249 (by decide) ?_
        have e := Option.some.inj h
        exact hk r4.2 _ _ _ e.symm hP hS (lv_sub hl [2, 3, 4, 5, 6] rfl)
      · exact absurd (hno 0 (Option.some.inj h).symm) (by decide)
    · refine lv_goto (tgt := 2033) C.1 C.2.1 dL_law_1249 (by decide) ?_
      have e := Option.some.inj h
      exact hk r4.2 _ _ _ e.symm hP hS (lv_sub hl [2, 3, 4, 5, 6] rfl)
  · exact absurd (hno 0 (Option.some.inj h).symm) (by decide)
noncomputable def fL_c19 (n : Nat) (Sh : Sp) (xs : Nat → Int32) (L x mm out : Nat) (i : Int32) (M : Mm) : Option (Mm ⊕ Int32) :=
  scr xs L (i + 1) fun t1 =>
  (fL_close n Sh M x t1 out).bind fun r2 =>
  scr xs L (i + 1) fun t3 =>
  (fX7_close n Sh r2.2 mm t3).bind fun r4 =>
  (fX7_thrown n Sh r4.2 mm).bind fun r5 =>
  if r5 = r2.1 then
    if r2.1 = 0 then
      aL Sh r4.2 out 0 fun y6 =>
      if (y6 : Int64) = (Int32.toInt64 r4.1) then
        some (Sum.inl r4.2)
      else
        some (Sum.inr 0)
    else
      some (Sum.inl r4.2)
  else
    some (Sum.inr 0)
set_option maxRecDepth 100000 in
set_option maxHeartbeats 4000000 in
theorem kL_c19 (C : CallFix p m c cL_law 7 s args GW RL) (hfl : l.stackTraces = false) (hK : KK G s) (hX : XE G s s.heap) (hN : NC s) (hb : G.1 ≤ s.heap.size) (hXs : va_X b L xs s s.heap) (hbl : b < s.heap.size) (hbA : ¬ AA G b) (hTx : Sh x = some (.inl 6)) (hTm : Sh mm = some (.inl 7)) {z : Mm ⊕ Int32} (h : fL_c19 n Sh xs L x mm out i M = some z) (hRc : cl + 8 ≤ room_1.cells ∧ sl + 48 ≤ room_1.slots) (hP : HM G Sh M H) (hS : va_S (AA G) s.heap H locs) (hl : lv_has ls 7 [(0, .ref b), (1, .ref x), (2, .ref mm), (3, .ref out), (4, .int i)]) (hno : ∀ q : Int32, z = .inr q → q = 1)
    (hk : ∀ (M1 : Mm) (H : Heap) (locs : List Loc) (ls : Array Slot), z = .inl M1 → HM G Sh M1 H → va_S (AA G) s.heap H locs → lv_has ls 7 [(0, .ref b), (1, .ref x), (2, .ref mm), (3, .ref out), (4, .int i)] → W p l e room_1 s m args below meth c H locs (cl + 8) (sl + 48) Q (F0 m 2033 ls [])) :
    W p l e room_1 s m args below meth c H locs cl sl Q (F0 m 1252 ls []) := by
  have hR0 : cl + 0 ≤ room_1.cells ∧ sl + 0 ≤ room_1.slots := ⟨Nat.le_trans (Nat.le_add_right cl 8) hRc.1, Nat.le_trans (Nat.le_add_right sl 48) hRc.2⟩
  unfold fL_c19 at h
  refine lv_aload_n C.1 C.2.1 dL_law_1252 rfl (lv_at hl 1 rfl) ?_
  refine lv_aload_n C.1 C.2.1 dL_law_1253 rfl (lv_at hl 0 rfl) ?_
  refine lv_iload C.1 C.2.1 dL_law_1254 (lv_at hl 4 rfl) ?_
  refine lv_iconst (v := 1) C.1 C.2.1 dL_law_1256 (by decide) ?_
  refine lv_iadd C.1 C.2.1 dL_law_1257 ?_
  refine r_scr C hXs hbl hbA hS dL_law_1258 h (fun t1 h => ?_)
  refine lv_aload_n C.1 C.2.1 dL_law_1259 rfl (lv_at hl 3 rfl) ?_
  obtain ⟨r2, hc, h⟩ := bS h
  refine r_W (n := 3) C hK hX hN hb hP hS hl.1 (kL_close hfl hc) wd_992 wd_994 wd_74 ⟨by decide +kernel, by decide +kernel, by decide +kernel⟩ wd_993 ⟨Nat.le_of_ble_eq_true rfl, Nat.le_of_ble_eq_true rfl⟩ (k1 := cl + 8) (k2 := sl + 48) ⟨Nat.add_le_add_left (Nat.le_of_ble_eq_true rfl) _, Nat.add_le_add_left (Nat.le_of_ble_eq_true rfl) _⟩ hRc rfl (rest := []) rfl (Nat.le_of_ble_eq_true rfl) dL_law_1260 (fun H locs hP hS => ?_)
  refine lv_istore (lv' := [(5, .int r2.1), (0, .ref b), (1, .ref x), (2, .ref mm), (3, .ref out), (4, .int i)]) C.1 C.2.1 dL_law_1263 hl (by decide) rfl (fun ls hl => ?_)
  refine lv_aload_n C.1 C.2.1 dL_law_1265 rfl (lv_at hl 3 rfl) ?_
  refine lv_aload_n C.1 C.2.1 dL_law_1266 rfl (lv_at hl 1 rfl) ?_
  refine lv_iload C.1 C.2.1 dL_law_1267 (lv_at hl 5 rfl) ?_
  refine lv_iconst (v := 1) C.1 C.2.1 dL_law_1269 (by decide) ?_
  refine lv_iadd C.1 C.2.1 dL_law_1270 ?_
  refine r_scr C hXs hbl hbA hS dL_law_1271 h (fun t3 h => ?_)
  obtain ⟨r4, hc, h⟩ := bS h
  refine r_V1 C hK hX hb hP ⟨hS, rfl⟩ hl.1 (kX7_close hTm hc) hTm cl_7 wd_1430 mo_X7_close wd_1431 wd_1432 ⟨Nat.le_of_ble_eq_true rfl, Nat.le_of_ble_eq_true rfl⟩ hRc rfl (rest := []) rfl (Nat.le_of_ble_eq_true rfl) dL_law_1272 (fun H locs hP hS => ?_)
  replace hS := hS.1
  refine W.widen (k := cl + 8) (n := sl + 48) (Nat.le_refl _) (Nat.le_refl _) ?_
  refine lv_istore (lv' := [(6, .int r4.1), (5, .int r2.1), (0, .ref b), (1, .ref x), (2, .ref mm), (3, .ref out), (4, .int i)]) C.1 C.2.1 dL_law_1275 hl (by decide) rfl (fun ls hl => ?_)
  refine lv_aload_n C.1 C.2.1 dL_law_1277 rfl (lv_at hl 4 rfl) ?_
  obtain ⟨r5, hc, h⟩ := bS h
  refine r_V1 C hK hX hb hP ⟨hS, rfl⟩ hl.1 (kX7_thrown hTm hc) hTm cl_7 wd_1182 mo_X7_thrown wd_1183 wd_1184 ⟨Nat.le_of_ble_eq_true rfl, Nat.le_of_ble_eq_true rfl⟩ hRc rfl (rest := []) rfl (Nat.le_of_ble_eq_true rfl) dL_law_1278 (fun H locs hP hS => ?_)
  replace hS := hS.1
  refine W.widen (k := cl + 8) (n := sl + 48) (Nat.le_refl _) (Nat.le_refl _) ?_
  refine lv_iload C.1 C.2.1 dL_law_1281 (lv_at hl 1 rfl) ?_
  refine b_ieq (tgt := 1288) C dL_law_1283 (by decide) h (fun h => ?_) (fun h => ?_)
  · refine lv_iload C.1 C.2.1 dL_law_1288 (lv_at hl 1 rfl) ?_
    refine b_ne (tgt := 1305) C dL_law_1290 (by decide) h (fun h => ?_) (fun h => ?_)
    · refine lv_aload_n C.1 C.2.1 dL_law_1293 rfl (lv_at hl 5 rfl) ?_
      refine lv_iconst (v := 0) C.1 C.2.1 dL_law_1294 (by decide) ?_
      refine r_aL C hK hP dL_law_1295 h (fun y6 h => ?_)
      refine lv_iload C.1 C.2.1 dL_law_1296 (lv_at hl 0 rfl) ?_
      refine lv_i2l C.1 C.2.1 dL_law_1298 rfl ?_
      refine b_lcmp (tgt := 1305) C dL_law_1299 dL_law_1300 (by decide) h (fun h => ?_) (fun h => ?_)
      · refine lv_goto (tgt := 2033) C.1 C.2.1 dL_law_1305 (by decide) ?_
        have e := Option.some.inj h
        exact hk r4.2 _ _ _ e.symm hP hS (lv_sub hl [2, 3, 4, 5, 6] rfl)
      · exact absurd (hno 0 (Option.some.inj h).symm) (by decide)
    · refine lv_goto (tgt := 2033) C.1 C.2.1 dL_law_1305 (by decide) ?_
      have e := Option.some.inj h
      exact hk r4.2 _ _ _ e.symm hP hS (lv_sub hl [2, 3, 4, 5, 6] rfl)
  · exact absurd (hno 0 (Option.some.inj h).symm) (by decide)
noncomputable def fL_c20 (n : Nat) (Sh : Sp) (xs : Nat → Int32) (L x mm out : Nat) (i : Int32) (M : Mm) : Option (Mm ⊕ Int32) :=
  (fX6_trap n Sh M x).bind fun r1 =>
  (fX7_trap n Sh M mm).bind fun r2 =>
  if r1 = r2.1 then
    some (Sum.inl r2.2)
  else
    some (Sum.inr 0)
set_option maxRecDepth 100000 in
set_option maxHeartbeats 4000000 in
theorem kL_c20 (C : CallFix p m c cL_law 7 s args GW RL) (hfl : l.stackTraces = false) (hK : KK G s) (hX : XE G s s.heap) (hN : NC s) (hb : G.1 ≤ s.heap.size) (hXs : va_X b L xs s s.heap) (hbl : b < s.heap.size) (hbA : ¬ AA G b) (hTx : Sh x = some (.inl 6)) (hTm : Sh mm = some (.inl 7)) {z : Mm ⊕ Int32} (h : fL_c20 n Sh xs L x mm out i M = some z) (hRc : cl + 8 ≤ room_1.cells ∧ sl + 48 ≤ room_1.slots) (hP : HM G Sh M H) (hS : va_S (AA G) s.heap H locs) (hl : lv_has ls 7 [(0, .ref b), (1, .ref x), (2, .ref mm), (3, .ref out), (4, .int i)]) (hno : ∀ q : Int32, z = .inr q → q = 1)
    (hk : ∀ (M1 : Mm) (H : Heap) (locs : List Loc) (ls : Array Slot), z = .inl M1 → HM G Sh M1 H → va_S (AA G) s.heap H locs → lv_has ls 7 [(0, .ref b), (1, .ref x), (2, .ref mm), (3, .ref out), (4, .int i)] → W p l e room_1 s m args below meth c H locs (cl + 8) (sl + 48) Q (F0 m 2033 ls [])) :
    W p l e room_1 s m args below meth c H locs cl sl Q (F0 m 1308 ls []) := by
  have hR0 : cl + 0 ≤ room_1.cells ∧ sl + 0 ≤ room_1.slots := ⟨Nat.le_trans (Nat.le_add_right cl 8) hRc.1, Nat.le_trans (Nat.le_add_right sl 48) hRc.2⟩
  unfold fL_c20 at h
  refine lv_aload_n C.1 C.2.1 dL_law_1308 rfl (lv_at hl 1 rfl) ?_
  obtain ⟨r1, hc, h⟩ := bS h
  refine r_V1 C hK hX hb hP ⟨hS, rfl⟩ hl.1 (kX6_trap hTx hc) hTx cl_6 wd_570 mo_X6_trap wd_571 wd_572 ⟨Nat.le_of_ble_eq_true rfl, Nat.le_of_ble_eq_true rfl⟩ hR0 rfl (rest := []) rfl (Nat.le_of_ble_eq_true rfl) dL_law_1309 (fun H locs hP hS => ?_)
  replace hS := hS.1
  refine W.widen (k := cl) (n := sl) (Nat.le_refl _) (Nat.le_refl _) ?_
  refine lv_aload_n C.1 C.2.1 dL_law_1312 rfl (lv_at hl 2 rfl) ?_
  obtain ⟨r2, hc, h⟩ := bS h
  refine r_V1 C hK hX hb hP ⟨hS, rfl⟩ hl.1 (kX7_trap hTm hc) hTm cl_7 wd_1434 mo_X7_trap wd_1435 wd_1436 ⟨Nat.le_of_ble_eq_true rfl, Nat.le_of_ble_eq_true rfl⟩ hR0 rfl (rest := [.int r1]) rfl (Nat.le_of_ble_eq_true rfl) dL_law_1313 (fun H locs hP hS => ?_)
  replace hS := hS.1
  refine W.widen (k := cl) (n := sl) (Nat.le_refl _) (Nat.le_refl _) ?_
  refine b_ieq (tgt := 2033) C dL_law_1316 (by decide) h (fun h => ?_) (fun h => ?_)
  · have e := Option.some.inj h
    refine W.widen (k := cl + 8) (n := sl + 48) (Nat.le_add_right _ _) (Nat.le_add_right _ _) ?_
    exact hk r2.2 _ _ _ e.symm hP hS (lv_sub hl [0, 1, 2, 3, 4] rfl)
  · exact absurd (hno 0 (Option.some.inj h).symm) (by decide)
noncomputable def fL_c21 (n : Nat) (Sh : Sp) (xs : Nat → Int32) (L x mm out : Nat) (i : Int32) (M : Mm) : Option (Mm ⊕ Int32) :=
  scr xs L (i + 1) fun t1 =>
  (fL_region n Sh M x t1 out).bind fun r2 =>
  scr xs L (i + 1) fun t3 =>
  (fX7_region n Sh r2.2 mm t3).bind fun r4 =>
  (fX7_thrown n Sh r4.2 mm).bind fun r5 =>
  if r5 = r2.1 then
    if r2.1 = 0 then
      aL Sh r4.2 out 0 fun y6 =>
      if (y6 : Int64) = (Int32.toInt64 r4.1) then
        some (Sum.inl r4.2)
      else
        some (Sum.inr 0)
    else
      some (Sum.inl r4.2)
  else
    some (Sum.inr 0)
set_option maxRecDepth 100000 in
set_option maxHeartbeats 4000000 in
theorem kL_c21 (C : CallFix p m c cL_law 7 s args GW RL) (hfl : l.stackTraces = false) (hK : KK G s) (hX : XE G s s.heap) (hN : NC s) (hb : G.1 ≤ s.heap.size) (hXs : va_X b L xs s s.heap) (hbl : b < s.heap.size) (hbA : ¬ AA G b) (hTx : Sh x = some (.inl 6)) (hTm : Sh mm = some (.inl 7)) {z : Mm ⊕ Int32} (h : fL_c21 n Sh xs L x mm out i M = some z) (hRc : cl + 8 ≤ room_1.cells ∧ sl + 48 ≤ room_1.slots) (hP : HM G Sh M H) (hS : va_S (AA G) s.heap H locs) (hl : lv_has ls 7 [(0, .ref b), (1, .ref x), (2, .ref mm), (3, .ref out), (4, .int i)]) (hno : ∀ q : Int32, z = .inr q → q = 1)
    (hk : ∀ (M1 : Mm) (H : Heap) (locs : List Loc) (ls : Array Slot), z = .inl M1 → HM G Sh M1 H → va_S (AA G) s.heap H locs → lv_has ls 7 [(0, .ref b), (1, .ref x), (2, .ref mm), (3, .ref out), (4, .int i)] → W p l e room_1 s m args below meth c H locs (cl + 8) (sl + 48) Q (F0 m 2033 ls [])) :
    W p l e room_1 s m args below meth c H locs cl sl Q (F0 m 1321 ls []) := by
  have hR0 : cl + 0 ≤ room_1.cells ∧ sl + 0 ≤ room_1.slots := ⟨Nat.le_trans (Nat.le_add_right cl 8) hRc.1, Nat.le_trans (Nat.le_add_right sl 48) hRc.2⟩
  unfold fL_c21 at h
  refine lv_aload_n C.1 C.2.1 dL_law_1321 rfl (lv_at hl 1 rfl) ?_
  refine lv_aload_n C.1 C.2.1 dL_law_1322 rfl (lv_at hl 0 rfl) ?_
  refine lv_iload C.1 C.2.1 dL_law_1323 (lv_at hl 4 rfl) ?_
  refine lv_iconst (v := 1) C.1 C.2.1 dL_law_1325 (by decide) ?_
  refine lv_iadd C.1 C.2.1 dL_law_1326 ?_
  refine r_scr C hXs hbl hbA hS dL_law_1327 h (fun t1 h => ?_)
  refine lv_aload_n C.1 C.2.1 dL_law_1328 rfl (lv_at hl 3 rfl) ?_
  obtain ⟨r2, hc, h⟩ := bS h
  refine r_W (n := 3) C hK hX hN hb hP hS hl.1 (kL_region hfl hc) wd_1008 wd_1010 wd_74 ⟨by decide +kernel, by decide +kernel, by decide +kernel⟩ wd_1009 ⟨Nat.le_of_ble_eq_true rfl, Nat.le_of_ble_eq_true rfl⟩ (k1 := cl + 8) (k2 := sl + 48) ⟨Nat.add_le_add_left (Nat.le_of_ble_eq_true rfl) _, Nat.add_le_add_left (Nat.le_of_ble_eq_true rfl) _⟩ hRc rfl (rest := []) rfl (Nat.le_of_ble_eq_true rfl) dL_law_1329 (fun H locs hP hS => ?_)
  refine lv_istore (lv' := [(5, .int r2.1), (0, .ref b), (1, .ref x), (2, .ref mm), (3, .ref out), (4, .int i)]) C.1 C.2.1 dL_law_1332 hl (by decide) rfl (fun ls hl => ?_)
  refine lv_aload_n C.1 C.2.1 dL_law_1334 rfl (lv_at hl 3 rfl) ?_
  refine lv_aload_n C.1 C.2.1 dL_law_1335 rfl (lv_at hl 1 rfl) ?_
  refine lv_iload C.1 C.2.1 dL_law_1336 (lv_at hl 5 rfl) ?_
  refine lv_iconst (v := 1) C.1 C.2.1 dL_law_1338 (by decide) ?_
  refine lv_iadd C.1 C.2.1 dL_law_1339 ?_
  refine r_scr C hXs hbl hbA hS dL_law_1340 h (fun t3 h => ?_)
  obtain ⟨r4, hc, h⟩ := bS h
  refine r_V1 C hK hX hb hP ⟨hS, rfl⟩ hl.1 (kX7_region hTm hc) hTm cl_7 wd_1438 mo_X7_region wd_1439 wd_1440 ⟨Nat.le_of_ble_eq_true rfl, Nat.le_of_ble_eq_true rfl⟩ hRc rfl (rest := []) rfl (Nat.le_of_ble_eq_true rfl) dL_law_1341 (fun H locs hP hS => ?_)
  replace hS := hS.1
  refine W.widen (k := cl + 8) (n := sl + 48) (Nat.le_refl _) (Nat.le_refl _) ?_
  refine lv_istore (lv' := [(6, .int r4.1), (5, .int r2.1), (0, .ref b), (1, .ref x), (2, .ref mm), (3, .ref out), (4, .int i)]) C.1 C.2.1 dL_law_1344 hl (by decide) rfl (fun ls hl => ?_)
  refine lv_aload_n C.1 C.2.1 dL_law_1346 rfl (lv_at hl 4 rfl) ?_
  obtain ⟨r5, hc, h⟩ := bS h
  refine r_V1 C hK hX hb hP ⟨hS, rfl⟩ hl.1 (kX7_thrown hTm hc) hTm cl_7 wd_1182 mo_X7_thrown wd_1183 wd_1184 ⟨Nat.le_of_ble_eq_true rfl, Nat.le_of_ble_eq_true rfl⟩ hRc rfl (rest := []) rfl (Nat.le_of_ble_eq_true rfl) dL_law_1347 (fun H locs hP hS => ?_)
  replace hS := hS.1
  refine W.widen (k := cl + 8) (n := sl + 48) (Nat.le_refl _) (Nat.le_refl _) ?_
  refine lv_iload C.1 C.2.1 dL_law_1350 (lv_at hl 1 rfl) ?_
  refine b_ieq (tgt := 1357) C dL_law_1352 (by decide) h (fun h => ?_) (fun h => ?_)
  · refine lv_iload C.1 C.2.1 dL_law_1357 (lv_at hl 1 rfl) ?_
    refine b_ne (tgt := 1374) C dL_law_1359 (by decide) h (fun h => ?_) (fun h => ?_)
    · refine lv_aload_n C.1 C.2.1 dL_law_1362 rfl (lv_at hl 5 rfl) ?_
      refine lv_iconst (v := 0) C.1 C.2.1 dL_law_1363 (by decide) ?_
      refine r_aL C hK hP dL_law_1364 h (fun y6 h => ?_)
      refine lv_iload C.1 C.2.1 dL_law_1365 (lv_at hl 0 rfl) ?_
      refine lv_i2l C.1 C.2.1 dL_law_1367 rfl ?_
      refine b_lcmp (tgt := 1374) C dL_law_1368 dL_law_1369 (by decide) h (fun h => ?_) (fun h => ?_)
      · refine lv_goto (tgt := 2033) C.1 C.2.1 dL_law_1374 (by decide) ?_
        have e := Option.some.inj h
        exact hk r4.2 _ _ _ e.symm hP hS (lv_sub hl [2, 3, 4, 5, 6] rfl)
      · exact absurd (hno 0 (Option.some.inj h).symm) (by decide)
    · refine lv_goto (tgt := 2033) C.1 C.2.1 dL_law_1374 (by decide) ?_
      have e := Option.some.inj h
      exact hk r4.2 _ _ _ e.symm hP hS (lv_sub hl [2, 3, 4, 5, 6] rfl)
  · exact absurd (hno 0 (Option.some.inj h).symm) (by decide)
noncomputable def fL_c22 (n : Nat) (Sh : Sp) (xs : Nat → Int32) (L x mm out : Nat) (i : Int32) (M : Mm) : Option (Mm ⊕ Int32) :=
  (fX6_pending n Sh M x).bind fun r1 =>
  (fX7_pending n Sh M mm).bind fun r2 =>
  if r1 = r2.1 then
    some (Sum.inl r2.2)
  else
    some (Sum.inr 0)
set_option maxRecDepth 100000 in
set_option maxHeartbeats 4000000 in
theorem kL_c22 (C : CallFix p m c cL_law 7 s args GW RL) (hfl : l.stackTraces = false) (hK : KK G s) (hX : XE G s s.heap) (hN : NC s) (hb : G.1 ≤ s.heap.size) (hXs : va_X b L xs s s.heap) (hbl : b < s.heap.size) (hbA : ¬ AA G b) (hTx : Sh x = some (.inl 6)) (hTm : Sh mm = some (.inl 7)) {z : Mm ⊕ Int32} (h : fL_c22 n Sh xs L x mm out i M = some z) (hRc : cl + 8 ≤ room_1.cells ∧ sl + 48 ≤ room_1.slots) (hP : HM G Sh M H) (hS : va_S (AA G) s.heap H locs) (hl : lv_has ls 7 [(0, .ref b), (1, .ref x), (2, .ref mm), (3, .ref out), (4, .int i)]) (hno : ∀ q : Int32, z = .inr q → q = 1)
    (hk : ∀ (M1 : Mm) (H : Heap) (locs : List Loc) (ls : Array Slot), z = .inl M1 → HM G Sh M1 H → va_S (AA G) s.heap H locs → lv_has ls 7 [(0, .ref b), (1, .ref x), (2, .ref mm), (3, .ref out), (4, .int i)] → W p l e room_1 s m args below meth c H locs (cl + 8) (sl + 48) Q (F0 m 2033 ls [])) :
    W p l e room_1 s m args below meth c H locs cl sl Q (F0 m 1377 ls []) := by
  have hR0 : cl + 0 ≤ room_1.cells ∧ sl + 0 ≤ room_1.slots := ⟨Nat.le_trans (Nat.le_add_right cl 8) hRc.1, Nat.le_trans (Nat.le_add_right sl 48) hRc.2⟩
  unfold fL_c22 at h
  refine lv_aload_n C.1 C.2.1 dL_law_1377 rfl (lv_at hl 1 rfl) ?_
  obtain ⟨r1, hc, h⟩ := bS h
  refine r_V1 C hK hX hb hP ⟨hS, rfl⟩ hl.1 (kX6_pending hTx hc) hTx cl_6 wd_575 mo_X6_pending wd_576 wd_577 ⟨Nat.le_of_ble_eq_true rfl, Nat.le_of_ble_eq_true rfl⟩ hR0 rfl (rest := []) rfl (Nat.le_of_ble_eq_true rfl) dL_law_1378 (fun H locs hP hS => ?_)
  replace hS := hS.1
  refine W.widen (k := cl) (n := sl) (Nat.le_refl _) (Nat.le_refl _) ?_
  refine lv_aload_n C.1 C.2.1 dL_law_1381 rfl (lv_at hl 2 rfl) ?_
  obtain ⟨r2, hc, h⟩ := bS h
  refine r_V1 C hK hX hb hP ⟨hS, rfl⟩ hl.1 (kX7_pending hTm hc) hTm cl_7 wd_1442 mo_X7_pending wd_1443 wd_1444 ⟨Nat.le_of_ble_eq_true rfl, Nat.le_of_ble_eq_true rfl⟩ hR0 rfl (rest := [.int r1]) rfl (Nat.le_of_ble_eq_true rfl) dL_law_1382 (fun H locs hP hS => ?_)
  replace hS := hS.1
  refine W.widen (k := cl) (n := sl) (Nat.le_refl _) (Nat.le_refl _) ?_
  refine b_ieq (tgt := 2033) C dL_law_1385 (by decide) h (fun h => ?_) (fun h => ?_)
  · have e := Option.some.inj h
    refine W.widen (k := cl + 8) (n := sl + 48) (Nat.le_add_right _ _) (Nat.le_add_right _ _) ?_
    exact hk r2.2 _ _ _ e.symm hP hS (lv_sub hl [0, 1, 2, 3, 4] rfl)
  · exact absurd (hno 0 (Option.some.inj h).symm) (by decide)
noncomputable def fL_c23 (n : Nat) (Sh : Sp) (xs : Nat → Int32) (L x mm out : Nat) (i : Int32) (M : Mm) : Option (Mm ⊕ Int32) :=
  scr xs L (i + 1) fun t1 =>
  scr xs L (i + 2) fun t2 =>
  (fL_announcement n Sh M x t1 t2 out).bind fun r3 =>
  scr xs L (i + 1) fun t4 =>
  scr xs L (i + 2) fun t5 =>
  (fX7_announcement n Sh r3.2 mm t4 t5).bind fun r6 =>
  (fX7_thrown n Sh r6.2 mm).bind fun r7 =>
  if r7 = r3.1 then
    if r3.1 = 0 then
      aL Sh r6.2 out 0 fun y8 =>
      if (y8 : Int64) = (Int32.toInt64 r6.1) then
        some (Sum.inl r6.2)
      else
        some (Sum.inr 0)
    else
      some (Sum.inl r6.2)
  else
    some (Sum.inr 0)
set_option maxRecDepth 100000 in
set_option maxHeartbeats 4000000 in
theorem kL_c23 (C : CallFix p m c cL_law 7 s args GW RL) (hfl : l.stackTraces = false) (hK : KK G s) (hX : XE G s s.heap) (hN : NC s) (hb : G.1 ≤ s.heap.size) (hXs : va_X b L xs s s.heap) (hbl : b < s.heap.size) (hbA : ¬ AA G b) (hTx : Sh x = some (.inl 6)) (hTm : Sh mm = some (.inl 7)) {z : Mm ⊕ Int32} (h : fL_c23 n Sh xs L x mm out i M = some z) (hRc : cl + 8 ≤ room_1.cells ∧ sl + 48 ≤ room_1.slots) (hP : HM G Sh M H) (hS : va_S (AA G) s.heap H locs) (hl : lv_has ls 7 [(0, .ref b), (1, .ref x), (2, .ref mm), (3, .ref out), (4, .int i)]) (hno : ∀ q : Int32, z = .inr q → q = 1)
    (hk : ∀ (M1 : Mm) (H : Heap) (locs : List Loc) (ls : Array Slot), z = .inl M1 → HM G Sh M1 H → va_S (AA G) s.heap H locs → lv_has ls 7 [(0, .ref b), (1, .ref x), (2, .ref mm), (3, .ref out), (4, .int i)] → W p l e room_1 s m args below meth c H locs (cl + 8) (sl + 48) Q (F0 m 2033 ls [])) :
    W p l e room_1 s m args below meth c H locs cl sl Q (F0 m 1390 ls []) := by
  have hR0 : cl + 0 ≤ room_1.cells ∧ sl + 0 ≤ room_1.slots := ⟨Nat.le_trans (Nat.le_add_right cl 8) hRc.1, Nat.le_trans (Nat.le_add_right sl 48) hRc.2⟩
  unfold fL_c23 at h
  refine lv_aload_n C.1 C.2.1 dL_law_1390 rfl (lv_at hl 1 rfl) ?_
  refine lv_aload_n C.1 C.2.1 dL_law_1391 rfl (lv_at hl 0 rfl) ?_
  refine lv_iload C.1 C.2.1 dL_law_1392 (lv_at hl 4 rfl) ?_
  refine lv_iconst (v := 1) C.1 C.2.1 dL_law_1394 (by decide) ?_
  refine lv_iadd C.1 C.2.1 dL_law_1395 ?_
  refine r_scr C hXs hbl hbA hS dL_law_1396 h (fun t1 h => ?_)
  refine lv_aload_n C.1 C.2.1 dL_law_1397 rfl (lv_at hl 0 rfl) ?_
  refine lv_iload C.1 C.2.1 dL_law_1398 (lv_at hl 4 rfl) ?_
  refine lv_iconst (v := 2) C.1 C.2.1 dL_law_1400 (by decide) ?_
  refine lv_iadd C.1 C.2.1 dL_law_1401 ?_
  refine r_scr C hXs hbl hbA hS dL_law_1402 h (fun t2 h => ?_)
  refine lv_aload_n C.1 C.2.1 dL_law_1403 rfl (lv_at hl 3 rfl) ?_
  obtain ⟨r3, hc, h⟩ := bS h
  refine r_W (n := 4) C hK hX hN hb hP hS hl.1 (kL_announcement hfl hc) wd_1016 wd_1018 wd_74 ⟨by decide +kernel, by decide +kernel, by decide +kernel⟩ wd_1017 ⟨Nat.le_of_ble_eq_true rfl, Nat.le_of_ble_eq_true rfl⟩ (k1 := cl + 8) (k2 := sl + 48) ⟨Nat.add_le_add_left (Nat.le_of_ble_eq_true rfl) _, Nat.add_le_add_left (Nat.le_of_ble_eq_true rfl) _⟩ hRc rfl (rest := []) rfl (Nat.le_of_ble_eq_true rfl) dL_law_1404 (fun H locs hP hS => ?_)
  refine lv_istore (lv' := [(5, .int r3.1), (0, .ref b), (1, .ref x), (2, .ref mm), (3, .ref out), (4, .int i)]) C.1 C.2.1 dL_law_1407 hl (by decide) rfl (fun ls hl => ?_)
  refine lv_aload_n C.1 C.2.1 dL_law_1409 rfl (lv_at hl 3 rfl) ?_
  refine lv_aload_n C.1 C.2.1 dL_law_1410 rfl (lv_at hl 1 rfl) ?_
  refine lv_iload C.1 C.2.1 dL_law_1411 (lv_at hl 5 rfl) ?_
  refine lv_iconst (v := 1) C.1 C.2.1 dL_law_1413 (by decide) ?_
  refine lv_iadd C.1 C.2.1 dL_law_1414 ?_
  refine r_scr C hXs hbl hbA hS dL_law_1415 h (fun t4 h => ?_)
  refine lv_aload_n C.1 C.2.1 dL_law_1416 rfl (lv_at hl 1 rfl) ?_
  refine lv_iload C.1 C.2.1 dL_law_1417 (lv_at hl 5 rfl) ?_
  refine lv_iconst (v := 2) C.1 C.2.1 dL_law_1419 (by decide) ?_
  refine lv_iadd C.1 C.2.1 dL_law_1420 ?_
  refine r_scr C hXs hbl hbA hS dL_law_1421 h (fun t5 h => ?_)
  obtain ⟨r6, hc, h⟩ := bS h
  refine r_V1 C hK hX hb hP ⟨hS, rfl⟩ hl.1 (kX7_announcement hTm hc) hTm cl_7 wd_1446 mo_X7_announcement wd_1447 wd_1448 ⟨Nat.le_of_ble_eq_true rfl, Nat.le_of_ble_eq_true rfl⟩ hRc rfl (rest := []) rfl (Nat.le_of_ble_eq_true rfl) dL_law_1422 (fun H locs hP hS => ?_)
  replace hS := hS.1
  refine W.widen (k := cl + 8) (n := sl + 48) (Nat.le_refl _) (Nat.le_refl _) ?_
  refine lv_istore (lv' := [(6, .int r6.1), (5, .int r3.1), (0, .ref b), (1, .ref x), (2, .ref mm), (3, .ref out), (4, .int i)]) C.1 C.2.1 dL_law_1425 hl (by decide) rfl (fun ls hl => ?_)
  refine lv_aload_n C.1 C.2.1 dL_law_1427 rfl (lv_at hl 4 rfl) ?_
  obtain ⟨r7, hc, h⟩ := bS h
  refine r_V1 C hK hX hb hP ⟨hS, rfl⟩ hl.1 (kX7_thrown hTm hc) hTm cl_7 wd_1182 mo_X7_thrown wd_1183 wd_1184 ⟨Nat.le_of_ble_eq_true rfl, Nat.le_of_ble_eq_true rfl⟩ hRc rfl (rest := []) rfl (Nat.le_of_ble_eq_true rfl) dL_law_1428 (fun H locs hP hS => ?_)
  replace hS := hS.1
  refine W.widen (k := cl + 8) (n := sl + 48) (Nat.le_refl _) (Nat.le_refl _) ?_
  refine lv_iload C.1 C.2.1 dL_law_1431 (lv_at hl 1 rfl) ?_
  refine b_ieq (tgt := 1438) C dL_law_1433 (by decide) h (fun h => ?_) (fun h => ?_)
  · refine lv_iload C.1 C.2.1 dL_law_1438 (lv_at hl 1 rfl) ?_
    refine b_ne (tgt := 1455) C dL_law_1440 (by decide) h (fun h => ?_) (fun h => ?_)
    · refine lv_aload_n C.1 C.2.1 dL_law_1443 rfl (lv_at hl 5 rfl) ?_
      refine lv_iconst (v := 0) C.1 C.2.1 dL_law_1444 (by decide) ?_
      refine r_aL C hK hP dL_law_1445 h (fun y8 h => ?_)
      refine lv_iload C.1 C.2.1 dL_law_1446 (lv_at hl 0 rfl) ?_
      refine lv_i2l C.1 C.2.1 dL_law_1448 rfl ?_
      refine b_lcmp (tgt := 1455) C dL_law_1449 dL_law_1450 (by decide) h (fun h => ?_) (fun h => ?_)
      · refine lv_goto (tgt := 2033) C.1 C.2.1 dL_law_1455 (by decide) ?_
        have e := Option.some.inj h
        exact hk r6.2 _ _ _ e.symm hP hS (lv_sub hl [2, 3, 4, 5, 6] rfl)
      · exact absurd (hno 0 (Option.some.inj h).symm) (by decide)
    · refine lv_goto (tgt := 2033) C.1 C.2.1 dL_law_1455 (by decide) ?_
      have e := Option.some.inj h
      exact hk r6.2 _ _ _ e.symm hP hS (lv_sub hl [2, 3, 4, 5, 6] rfl)
  · exact absurd (hno 0 (Option.some.inj h).symm) (by decide)
noncomputable def fL_c24 (n : Nat) (Sh : Sp) (xs : Nat → Int32) (L x mm out : Nat) (i : Int32) (M : Mm) : Option (Mm ⊕ Int32) :=
  scr xs L (i + 1) fun t1 =>
  scr xs L (i + 2) fun t2 =>
  (fX6_announced n Sh M x t1 t2).bind fun r3 =>
  scr xs L (i + 1) fun t4 =>
  scr xs L (i + 2) fun t5 =>
  (fX7_announced n Sh M mm t4 t5).bind fun r6 =>
  if r3 = r6.1 then
    some (Sum.inl r6.2)
  else
    some (Sum.inr 0)
set_option maxRecDepth 100000 in
set_option maxHeartbeats 4000000 in
theorem kL_c24 (C : CallFix p m c cL_law 7 s args GW RL) (hfl : l.stackTraces = false) (hK : KK G s) (hX : XE G s s.heap) (hN : NC s) (hb : G.1 ≤ s.heap.size) (hXs : va_X b L xs s s.heap) (hbl : b < s.heap.size) (hbA : ¬ AA G b) (hTx : Sh x = some (.inl 6)) (hTm : Sh mm = some (.inl 7)) {z : Mm ⊕ Int32} (h : fL_c24 n Sh xs L x mm out i M = some z) (hRc : cl + 8 ≤ room_1.cells ∧ sl + 48 ≤ room_1.slots) (hP : HM G Sh M H) (hS : va_S (AA G) s.heap H locs) (hl : lv_has ls 7 [(0, .ref b), (1, .ref x), (2, .ref mm), (3, .ref out), (4, .int i)]) (hno : ∀ q : Int32, z = .inr q → q = 1)
    (hk : ∀ (M1 : Mm) (H : Heap) (locs : List Loc) (ls : Array Slot), z = .inl M1 → HM G Sh M1 H → va_S (AA G) s.heap H locs → lv_has ls 7 [(0, .ref b), (1, .ref x), (2, .ref mm), (3, .ref out), (4, .int i)] → W p l e room_1 s m args below meth c H locs (cl + 8) (sl + 48) Q (F0 m 2033 ls [])) :
    W p l e room_1 s m args below meth c H locs cl sl Q (F0 m 1458 ls []) := by
  have hR0 : cl + 0 ≤ room_1.cells ∧ sl + 0 ≤ room_1.slots := ⟨Nat.le_trans (Nat.le_add_right cl 8) hRc.1, Nat.le_trans (Nat.le_add_right sl 48) hRc.2⟩
  unfold fL_c24 at h
  refine lv_aload_n C.1 C.2.1 dL_law_1458 rfl (lv_at hl 1 rfl) ?_
  refine lv_aload_n C.1 C.2.1 dL_law_1459 rfl (lv_at hl 0 rfl) ?_
  refine lv_iload C.1 C.2.1 dL_law_1460 (lv_at hl 4 rfl) ?_
  refine lv_iconst (v := 1) C.1 C.2.1 dL_law_1462 (by decide) ?_
  refine lv_iadd C.1 C.2.1 dL_law_1463 ?_
  refine r_scr C hXs hbl hbA hS dL_law_1464 h (fun t1 h => ?_)
  refine lv_aload_n C.1 C.2.1 dL_law_1465 rfl (lv_at hl 0 rfl) ?_
  refine lv_iload C.1 C.2.1 dL_law_1466 (lv_at hl 4 rfl) ?_
  refine lv_iconst (v := 2) C.1 C.2.1 dL_law_1468 (by decide) ?_
  refine lv_iadd C.1 C.2.1 dL_law_1469 ?_
  refine r_scr C hXs hbl hbA hS dL_law_1470 h (fun t2 h => ?_)
  obtain ⟨r3, hc, h⟩ := bS h
  refine r_V1 C hK hX hb hP ⟨hS, rfl⟩ hl.1 (kX6_announced hTx hc) hTx cl_6 wd_579 mo_X6_announced wd_580 wd_581 ⟨Nat.le_of_ble_eq_true rfl, Nat.le_of_ble_eq_true rfl⟩ hR0 rfl (rest := []) rfl (Nat.le_of_ble_eq_true rfl) dL_law_1471 (fun H locs hP hS => ?_)
  replace hS := hS.1
  refine W.widen (k := cl) (n := sl) (Nat.le_refl _) (Nat.le_refl _) ?_
  refine lv_aload_n C.1 C.2.1 dL_law_1474 rfl (lv_at hl 2 rfl) ?_
  refine lv_aload_n C.1 C.2.1 dL_law_1475 rfl (lv_at hl 0 rfl) ?_
  refine lv_iload C.1 C.2.1 dL_law_1476 (lv_at hl 4 rfl) ?_
  refine lv_iconst (v := 1) C.1 C.2.1 dL_law_1478 (by decide) ?_
  refine lv_iadd C.1 C.2.1 dL_law_1479 ?_
  refine r_scr C hXs hbl hbA hS dL_law_1480 h (fun t4 h => ?_)
  refine lv_aload_n C.1 C.2.1 dL_law_1481 rfl (lv_at hl 0 rfl) ?_
  refine lv_iload C.1 C.2.1 dL_law_1482 (lv_at hl 4 rfl) ?_
  refine lv_iconst (v := 2) C.1 C.2.1 dL_law_1484 (by decide) ?_
  refine lv_iadd C.1 C.2.1 dL_law_1485 ?_
  refine r_scr C hXs hbl hbA hS dL_law_1486 h (fun t5 h => ?_)
  obtain ⟨r6, hc, h⟩ := bS h
  refine r_V1 C hK hX hb hP ⟨hS, rfl⟩ hl.1 (kX7_announced hTm hc) hTm cl_7 wd_1450 mo_X7_announced wd_1451 wd_1452 ⟨Nat.le_of_ble_eq_true rfl, Nat.le_of_ble_eq_true rfl⟩ hR0 rfl (rest := [.int r3]) rfl (Nat.le_of_ble_eq_true rfl) dL_law_1487 (fun H locs hP hS => ?_)
  replace hS := hS.1
  refine W.widen (k := cl) (n := sl) (Nat.le_refl _) (Nat.le_refl _) ?_
  refine b_ieq (tgt := 2033) C dL_law_1490 (by decide) h (fun h => ?_) (fun h => ?_)
  · have e := Option.some.inj h
    refine W.widen (k := cl + 8) (n := sl + 48) (Nat.le_add_right _ _) (Nat.le_add_right _ _) ?_
    exact hk r6.2 _ _ _ e.symm hP hS (lv_sub hl [0, 1, 2, 3, 4] rfl)
  · exact absurd (hno 0 (Option.some.inj h).symm) (by decide)
noncomputable def fL_c25 (n : Nat) (Sh : Sp) (xs : Nat → Int32) (L x mm out : Nat) (i : Int32) (M : Mm) : Option (Mm ⊕ Int32) :=
  (fX6_speak n Sh M x).bind fun r1 =>
  (fX7_speak n Sh r1.2 mm).bind fun r2 =>
  if r1.1 = r2.1 then
    some (Sum.inl r2.2)
  else
    some (Sum.inr 0)
set_option maxRecDepth 100000 in
set_option maxHeartbeats 4000000 in
theorem kL_c25 (C : CallFix p m c cL_law 7 s args GW RL) (hfl : l.stackTraces = false) (hK : KK G s) (hX : XE G s s.heap) (hN : NC s) (hb : G.1 ≤ s.heap.size) (hXs : va_X b L xs s s.heap) (hbl : b < s.heap.size) (hbA : ¬ AA G b) (hTx : Sh x = some (.inl 6)) (hTm : Sh mm = some (.inl 7)) {z : Mm ⊕ Int32} (h : fL_c25 n Sh xs L x mm out i M = some z) (hRc : cl + 8 ≤ room_1.cells ∧ sl + 48 ≤ room_1.slots) (hP : HM G Sh M H) (hS : va_S (AA G) s.heap H locs) (hl : lv_has ls 7 [(0, .ref b), (1, .ref x), (2, .ref mm), (3, .ref out), (4, .int i)]) (hno : ∀ q : Int32, z = .inr q → q = 1)
    (hk : ∀ (M1 : Mm) (H : Heap) (locs : List Loc) (ls : Array Slot), z = .inl M1 → HM G Sh M1 H → va_S (AA G) s.heap H locs → lv_has ls 7 [(0, .ref b), (1, .ref x), (2, .ref mm), (3, .ref out), (4, .int i)] → W p l e room_1 s m args below meth c H locs (cl + 8) (sl + 48) Q (F0 m 2033 ls [])) :
    W p l e room_1 s m args below meth c H locs cl sl Q (F0 m 1495 ls []) := by
  have hR0 : cl + 0 ≤ room_1.cells ∧ sl + 0 ≤ room_1.slots := ⟨Nat.le_trans (Nat.le_add_right cl 8) hRc.1, Nat.le_trans (Nat.le_add_right sl 48) hRc.2⟩
  unfold fL_c25 at h
  refine lv_aload_n C.1 C.2.1 dL_law_1495 rfl (lv_at hl 1 rfl) ?_
  obtain ⟨r1, hc, h⟩ := bS h
  refine r_V1 C hK hX hb hP ⟨hS, rfl⟩ hl.1 (kX6_speak hTx hc) hTx cl_6 wd_588 mo_X6_speak wd_589 wd_590 ⟨Nat.le_of_ble_eq_true rfl, Nat.le_of_ble_eq_true rfl⟩ hR0 rfl (rest := []) rfl (Nat.le_of_ble_eq_true rfl) dL_law_1496 (fun H locs hP hS => ?_)
  replace hS := hS.1
  refine W.widen (k := cl) (n := sl) (Nat.le_refl _) (Nat.le_refl _) ?_
  refine lv_aload_n C.1 C.2.1 dL_law_1499 rfl (lv_at hl 2 rfl) ?_
  obtain ⟨r2, hc, h⟩ := bS h
  refine r_V1 C hK hX hb hP ⟨hS, rfl⟩ hl.1 (kX7_speak hTm hc) hTm cl_7 wd_1458 mo_X7_speak wd_1459 wd_1460 ⟨Nat.le_of_ble_eq_true rfl, Nat.le_of_ble_eq_true rfl⟩ hR0 rfl (rest := [.int r1.1]) rfl (Nat.le_of_ble_eq_true rfl) dL_law_1500 (fun H locs hP hS => ?_)
  replace hS := hS.1
  refine W.widen (k := cl) (n := sl) (Nat.le_refl _) (Nat.le_refl _) ?_
  refine b_ieq (tgt := 2033) C dL_law_1503 (by decide) h (fun h => ?_) (fun h => ?_)
  · have e := Option.some.inj h
    refine W.widen (k := cl + 8) (n := sl + 48) (Nat.le_add_right _ _) (Nat.le_add_right _ _) ?_
    exact hk r2.2 _ _ _ e.symm hP hS (lv_sub hl [0, 1, 2, 3, 4] rfl)
  · exact absurd (hno 0 (Option.some.inj h).symm) (by decide)
noncomputable def fL_c26 (n : Nat) (Sh : Sp) (xs : Nat → Int32) (L x mm out : Nat) (i : Int32) (M : Mm) : Option (Mm ⊕ Int32) :=
  scr xs L (i + 1) fun t1 =>
  (fX6_spoken n Sh M x t1).bind fun r2 =>
  scr xs L (i + 1) fun t3 =>
  (fX7_spoken n Sh M mm t3).bind fun r4 =>
  if r2 = r4.1 then
    some (Sum.inl r4.2)
  else
    some (Sum.inr 0)
set_option maxRecDepth 100000 in
set_option maxHeartbeats 4000000 in
theorem kL_c26 (C : CallFix p m c cL_law 7 s args GW RL) (hfl : l.stackTraces = false) (hK : KK G s) (hX : XE G s s.heap) (hN : NC s) (hb : G.1 ≤ s.heap.size) (hXs : va_X b L xs s s.heap) (hbl : b < s.heap.size) (hbA : ¬ AA G b) (hTx : Sh x = some (.inl 6)) (hTm : Sh mm = some (.inl 7)) {z : Mm ⊕ Int32} (h : fL_c26 n Sh xs L x mm out i M = some z) (hRc : cl + 8 ≤ room_1.cells ∧ sl + 48 ≤ room_1.slots) (hP : HM G Sh M H) (hS : va_S (AA G) s.heap H locs) (hl : lv_has ls 7 [(0, .ref b), (1, .ref x), (2, .ref mm), (3, .ref out), (4, .int i)]) (hno : ∀ q : Int32, z = .inr q → q = 1)
    (hk : ∀ (M1 : Mm) (H : Heap) (locs : List Loc) (ls : Array Slot), z = .inl M1 → HM G Sh M1 H → va_S (AA G) s.heap H locs → lv_has ls 7 [(0, .ref b), (1, .ref x), (2, .ref mm), (3, .ref out), (4, .int i)] → W p l e room_1 s m args below meth c H locs (cl + 8) (sl + 48) Q (F0 m 2033 ls [])) :
    W p l e room_1 s m args below meth c H locs cl sl Q (F0 m 1508 ls []) := by
  have hR0 : cl + 0 ≤ room_1.cells ∧ sl + 0 ≤ room_1.slots := ⟨Nat.le_trans (Nat.le_add_right cl 8) hRc.1, Nat.le_trans (Nat.le_add_right sl 48) hRc.2⟩
  unfold fL_c26 at h
  refine lv_aload_n C.1 C.2.1 dL_law_1508 rfl (lv_at hl 1 rfl) ?_
  refine lv_aload_n C.1 C.2.1 dL_law_1509 rfl (lv_at hl 0 rfl) ?_
  refine lv_iload C.1 C.2.1 dL_law_1510 (lv_at hl 4 rfl) ?_
  refine lv_iconst (v := 1) C.1 C.2.1 dL_law_1512 (by decide) ?_
  refine lv_iadd C.1 C.2.1 dL_law_1513 ?_
  refine r_scr C hXs hbl hbA hS dL_law_1514 h (fun t1 h => ?_)
  obtain ⟨r2, hc, h⟩ := bS h
  refine r_V1 C hK hX hb hP ⟨hS, rfl⟩ hl.1 (kX6_spoken hTx hc) hTx cl_6 wd_600 mo_X6_spoken wd_601 wd_602 ⟨Nat.le_of_ble_eq_true rfl, Nat.le_of_ble_eq_true rfl⟩ hR0 rfl (rest := []) rfl (Nat.le_of_ble_eq_true rfl) dL_law_1515 (fun H locs hP hS => ?_)
  replace hS := hS.1
  refine W.widen (k := cl) (n := sl) (Nat.le_refl _) (Nat.le_refl _) ?_
  refine lv_aload_n C.1 C.2.1 dL_law_1518 rfl (lv_at hl 2 rfl) ?_
  refine lv_aload_n C.1 C.2.1 dL_law_1519 rfl (lv_at hl 0 rfl) ?_
  refine lv_iload C.1 C.2.1 dL_law_1520 (lv_at hl 4 rfl) ?_
  refine lv_iconst (v := 1) C.1 C.2.1 dL_law_1522 (by decide) ?_
  refine lv_iadd C.1 C.2.1 dL_law_1523 ?_
  refine r_scr C hXs hbl hbA hS dL_law_1524 h (fun t3 h => ?_)
  obtain ⟨r4, hc, h⟩ := bS h
  refine r_V1 C hK hX hb hP ⟨hS, rfl⟩ hl.1 (kX7_spoken hTm hc) hTm cl_7 wd_1462 mo_X7_spoken wd_1463 wd_1464 ⟨Nat.le_of_ble_eq_true rfl, Nat.le_of_ble_eq_true rfl⟩ hR0 rfl (rest := [.int r2]) rfl (Nat.le_of_ble_eq_true rfl) dL_law_1525 (fun H locs hP hS => ?_)
  replace hS := hS.1
  refine W.widen (k := cl) (n := sl) (Nat.le_refl _) (Nat.le_refl _) ?_
  refine b_ieq (tgt := 2033) C dL_law_1528 (by decide) h (fun h => ?_) (fun h => ?_)
  · have e := Option.some.inj h
    refine W.widen (k := cl + 8) (n := sl + 48) (Nat.le_add_right _ _) (Nat.le_add_right _ _) ?_
    exact hk r4.2 _ _ _ e.symm hP hS (lv_sub hl [0, 1, 2, 3, 4] rfl)
  · exact absurd (hno 0 (Option.some.inj h).symm) (by decide)
noncomputable def fL_c27 (n : Nat) (Sh : Sp) (xs : Nat → Int32) (L x mm out : Nat) (i : Int32) (M : Mm) : Option (Mm ⊕ Int32) :=
  (fX6_silence n Sh M x).bind fun r1 =>
  (fX7_silence n Sh r1.2 mm).bind fun r2 =>
  if r1.1 = r2.1 then
    some (Sum.inl r2.2)
  else
    some (Sum.inr 0)
set_option maxRecDepth 100000 in
set_option maxHeartbeats 4000000 in
theorem kL_c27 (C : CallFix p m c cL_law 7 s args GW RL) (hfl : l.stackTraces = false) (hK : KK G s) (hX : XE G s s.heap) (hN : NC s) (hb : G.1 ≤ s.heap.size) (hXs : va_X b L xs s s.heap) (hbl : b < s.heap.size) (hbA : ¬ AA G b) (hTx : Sh x = some (.inl 6)) (hTm : Sh mm = some (.inl 7)) {z : Mm ⊕ Int32} (h : fL_c27 n Sh xs L x mm out i M = some z) (hRc : cl + 8 ≤ room_1.cells ∧ sl + 48 ≤ room_1.slots) (hP : HM G Sh M H) (hS : va_S (AA G) s.heap H locs) (hl : lv_has ls 7 [(0, .ref b), (1, .ref x), (2, .ref mm), (3, .ref out), (4, .int i)]) (hno : ∀ q : Int32, z = .inr q → q = 1)
    (hk : ∀ (M1 : Mm) (H : Heap) (locs : List Loc) (ls : Array Slot), z = .inl M1 → HM G Sh M1 H → va_S (AA G) s.heap H locs → lv_has ls 7 [(0, .ref b), (1, .ref x), (2, .ref mm), (3, .ref out), (4, .int i)] → W p l e room_1 s m args below meth c H locs (cl + 8) (sl + 48) Q (F0 m 2033 ls [])) :
    W p l e room_1 s m args below meth c H locs cl sl Q (F0 m 1533 ls []) := by
  have hR0 : cl + 0 ≤ room_1.cells ∧ sl + 0 ≤ room_1.slots := ⟨Nat.le_trans (Nat.le_add_right cl 8) hRc.1, Nat.le_trans (Nat.le_add_right sl 48) hRc.2⟩
  unfold fL_c27 at h
  refine lv_aload_n C.1 C.2.1 dL_law_1533 rfl (lv_at hl 1 rfl) ?_
  obtain ⟨r1, hc, h⟩ := bS h
  refine r_V1 C hK hX hb hP ⟨hS, rfl⟩ hl.1 (kX6_silence hTx hc) hTx cl_6 wd_605 mo_X6_silence wd_606 wd_607 ⟨Nat.le_of_ble_eq_true rfl, Nat.le_of_ble_eq_true rfl⟩ hR0 rfl (rest := []) rfl (Nat.le_of_ble_eq_true rfl) dL_law_1534 (fun H locs hP hS => ?_)
  replace hS := hS.1
  refine W.widen (k := cl) (n := sl) (Nat.le_refl _) (Nat.le_refl _) ?_
  refine lv_aload_n C.1 C.2.1 dL_law_1537 rfl (lv_at hl 2 rfl) ?_
  obtain ⟨r2, hc, h⟩ := bS h
  refine r_V1 C hK hX hb hP ⟨hS, rfl⟩ hl.1 (kX7_silence hTm hc) hTm cl_7 wd_1466 mo_X7_silence wd_1467 wd_1468 ⟨Nat.le_of_ble_eq_true rfl, Nat.le_of_ble_eq_true rfl⟩ hR0 rfl (rest := [.int r1.1]) rfl (Nat.le_of_ble_eq_true rfl) dL_law_1538 (fun H locs hP hS => ?_)
  replace hS := hS.1
  refine W.widen (k := cl) (n := sl) (Nat.le_refl _) (Nat.le_refl _) ?_
  refine b_ieq (tgt := 2033) C dL_law_1541 (by decide) h (fun h => ?_) (fun h => ?_)
  · have e := Option.some.inj h
    refine W.widen (k := cl + 8) (n := sl + 48) (Nat.le_add_right _ _) (Nat.le_add_right _ _) ?_
    exact hk r2.2 _ _ _ e.symm hP hS (lv_sub hl [0, 1, 2, 3, 4] rfl)
  · exact absurd (hno 0 (Option.some.inj h).symm) (by decide)
noncomputable def fL_c28 (n : Nat) (Sh : Sp) (xs : Nat → Int32) (L x mm out : Nat) (i : Int32) (M : Mm) : Option (Mm ⊕ Int32) :=
  scr xs L (i + 1) fun t1 =>
  scr xs L (i + 2) fun t2 =>
  if t2 = 0 then
    (fL_cellPlace n Sh M x t1 0 out).bind fun r3 =>
    scr xs L (i + 1) fun t4 =>
    scr xs L (i + 2) fun t5 =>
    if t5 = 0 then
      (fX7_cellPlace n Sh r3.2 mm t4 0).bind fun r6 =>
      (fX7_thrown n Sh r6.2 mm).bind fun r7 =>
      if r7 = r3.1 then
        if r3.1 = 0 then
          aL Sh r6.2 out 0 fun y8 =>
          if (y8 : Int64) = (Int32.toInt64 r6.1) then
            some (Sum.inl r6.2)
          else
            some (Sum.inr 0)
        else
          some (Sum.inl r6.2)
      else
        some (Sum.inr 0)
    else
      (fX7_cellPlace n Sh r3.2 mm t4 1).bind fun r9 =>
      (fX7_thrown n Sh r9.2 mm).bind fun r10 =>
      if r10 = r3.1 then
        if r3.1 = 0 then
          aL Sh r9.2 out 0 fun y11 =>
          if (y11 : Int64) = (Int32.toInt64 r9.1) then
            some (Sum.inl r9.2)
          else
            some (Sum.inr 0)
        else
          some (Sum.inl r9.2)
      else
        some (Sum.inr 0)
  else
    (fL_cellPlace n Sh M x t1 1 out).bind fun r12 =>
    scr xs L (i + 1) fun t13 =>
    scr xs L (i + 2) fun t14 =>
    if t14 = 0 then
      (fX7_cellPlace n Sh r12.2 mm t13 0).bind fun r15 =>
      (fX7_thrown n Sh r15.2 mm).bind fun r16 =>
      if r16 = r12.1 then
        if r12.1 = 0 then
          aL Sh r15.2 out 0 fun y17 =>
          if (y17 : Int64) = (Int32.toInt64 r15.1) then
            some (Sum.inl r15.2)
          else
            some (Sum.inr 0)
        else
          some (Sum.inl r15.2)
      else
        some (Sum.inr 0)
    else
      (fX7_cellPlace n Sh r12.2 mm t13 1).bind fun r18 =>
      (fX7_thrown n Sh r18.2 mm).bind fun r19 =>
      if r19 = r12.1 then
        if r12.1 = 0 then
          aL Sh r18.2 out 0 fun y20 =>
          if (y20 : Int64) = (Int32.toInt64 r18.1) then
            some (Sum.inl r18.2)
          else
            some (Sum.inr 0)
        else
          some (Sum.inl r18.2)
      else
        some (Sum.inr 0)
set_option maxRecDepth 100000 in
set_option maxHeartbeats 4000000 in
theorem kL_c28 (C : CallFix p m c cL_law 7 s args GW RL) (hfl : l.stackTraces = false) (hK : KK G s) (hX : XE G s s.heap) (hN : NC s) (hb : G.1 ≤ s.heap.size) (hXs : va_X b L xs s s.heap) (hbl : b < s.heap.size) (hbA : ¬ AA G b) (hTx : Sh x = some (.inl 6)) (hTm : Sh mm = some (.inl 7)) {z : Mm ⊕ Int32} (h : fL_c28 n Sh xs L x mm out i M = some z) (hRc : cl + 8 ≤ room_1.cells ∧ sl + 48 ≤ room_1.slots) (hP : HM G Sh M H) (hS : va_S (AA G) s.heap H locs) (hl : lv_has ls 7 [(0, .ref b), (1, .ref x), (2, .ref mm), (3, .ref out), (4, .int i)]) (hno : ∀ q : Int32, z = .inr q → q = 1)
    (hk : ∀ (M1 : Mm) (H : Heap) (locs : List Loc) (ls : Array Slot), z = .inl M1 → HM G Sh M1 H → va_S (AA G) s.heap H locs → lv_has ls 7 [(0, .ref b), (1, .ref x), (2, .ref mm), (3, .ref out), (4, .int i)] → W p l e room_1 s m args below meth c H locs (cl + 8) (sl + 48) Q (F0 m 2033 ls [])) :
    W p l e room_1 s m args below meth c H locs cl sl Q (F0 m 1546 ls []) := by
  have hR0 : cl + 0 ≤ room_1.cells ∧ sl + 0 ≤ room_1.slots := ⟨Nat.le_trans (Nat.le_add_right cl 8) hRc.1, Nat.le_trans (Nat.le_add_right sl 48) hRc.2⟩
  unfold fL_c28 at h
  refine lv_aload_n C.1 C.2.1 dL_law_1546 rfl (lv_at hl 1 rfl) ?_
  refine lv_aload_n C.1 C.2.1 dL_law_1547 rfl (lv_at hl 0 rfl) ?_
  refine lv_iload C.1 C.2.1 dL_law_1548 (lv_at hl 4 rfl) ?_
  refine lv_iconst (v := 1) C.1 C.2.1 dL_law_1550 (by decide) ?_
  refine lv_iadd C.1 C.2.1 dL_law_1551 ?_
  refine r_scr C hXs hbl hbA hS dL_law_1552 h (fun t1 h => ?_)
  refine lv_aload_n C.1 C.2.1 dL_law_1553 rfl (lv_at hl 0 rfl) ?_
  refine lv_iload C.1 C.2.1 dL_law_1554 (lv_at hl 4 rfl) ?_
  refine lv_iconst (v := 2) C.1 C.2.1 dL_law_1556 (by decide) ?_
  refine lv_iadd C.1 C.2.1 dL_law_1557 ?_
  refine r_scr C hXs hbl hbA hS dL_law_1558 h (fun t2 h => ?_)
  refine b_eq (tgt := 1566) C dL_law_1559 (by decide) h (fun h => ?_) (fun h => ?_)
  · refine lv_iconst (v := 0) C.1 C.2.1 dL_law_1566 (by decide) ?_
    refine lv_aload_n C.1 C.2.1 dL_law_1567 rfl (lv_at hl 3 rfl) ?_
    obtain ⟨r3, hc, h⟩ := bS h
    refine r_W (n := 4) C hK hX hN hb hP hS hl.1 (kL_cellPlace hfl hc) wd_1023 wd_1025 wd_74 ⟨by decide +kernel, by decide +kernel, by decide +kernel⟩ wd_1024 ⟨Nat.le_of_ble_eq_true rfl, Nat.le_of_ble_eq_true rfl⟩ (k1 := cl + 8) (k2 := sl + 48) ⟨Nat.add_le_add_left (Nat.le_of_ble_eq_true rfl) _, Nat.add_le_add_left (Nat.le_of_ble_eq_true rfl) _⟩ hRc rfl (rest := []) rfl (Nat.le_of_ble_eq_true rfl) dL_law_1568 (fun H locs hP hS => ?_)
    refine lv_istore (lv' := [(5, .int r3.1), (0, .ref b), (1, .ref x), (2, .ref mm), (3, .ref out), (4, .int i)]) C.1 C.2.1 dL_law_1571 hl (by decide) rfl (fun ls hl => ?_)
    refine lv_aload_n C.1 C.2.1 dL_law_1573 rfl (lv_at hl 3 rfl) ?_
    refine lv_aload_n C.1 C.2.1 dL_law_1574 rfl (lv_at hl 1 rfl) ?_
    refine lv_iload C.1 C.2.1 dL_law_1575 (lv_at hl 5 rfl) ?_
    refine lv_iconst (v := 1) C.1 C.2.1 dL_law_1577 (by decide) ?_
    refine lv_iadd C.1 C.2.1 dL_law_1578 ?_
    refine r_scr C hXs hbl hbA hS dL_law_1579 h (fun t4 h => ?_)
    refine lv_aload_n C.1 C.2.1 dL_law_1580 rfl (lv_at hl 1 rfl) ?_
    refine lv_iload C.1 C.2.1 dL_law_1581 (lv_at hl 5 rfl) ?_
    refine lv_iconst (v := 2) C.1 C.2.1 dL_law_1583 (by decide) ?_
    refine lv_iadd C.1 C.2.1 dL_law_1584 ?_
    refine r_scr C hXs hbl hbA hS dL_law_1585 h (fun t5 h => ?_)
    refine b_eq (tgt := 1593) C dL_law_1586 (by decide) h (fun h => ?_) (fun h => ?_)
    · refine lv_iconst (v := 0) C.1 C.2.1 dL_law_1593 (by decide) ?_
      obtain ⟨r6, hc, h⟩ := bS h
      refine r_V1 C hK hX hb hP ⟨hS, rfl⟩ hl.1 (kX7_cellPlace hTm hc) hTm cl_7 wd_1470 mo_X7_cellPlace wd_1471 wd_1472 ⟨Nat.le_of_ble_eq_true rfl, Nat.le_of_ble_eq_true rfl⟩ hRc rfl (rest := []) rfl (Nat.le_of_ble_eq_true rfl) dL_law_1594 (fun H locs hP hS => ?_)
      replace hS := hS.1
      refine W.widen (k := cl + 8) (n := sl + 48) (Nat.le_refl _) (Nat.le_refl _) ?_
      refine lv_istore (lv' := [(6, .int r6.1), (5, .int r3.1), (0, .ref b), (1, .ref x), (2, .ref mm), (3, .ref out), (4, .int i)]) C.1 C.2.1 dL_law_1597 hl (by decide) rfl (fun ls hl => ?_)
      refine lv_aload_n C.1 C.2.1 dL_law_1599 rfl (lv_at hl 4 rfl) ?_
      obtain ⟨r7, hc, h⟩ := bS h
      refine r_V1 C hK hX hb hP ⟨hS, rfl⟩ hl.1 (kX7_thrown hTm hc) hTm cl_7 wd_1182 mo_X7_thrown wd_1183 wd_1184 ⟨Nat.le_of_ble_eq_true rfl, Nat.le_of_ble_eq_true rfl⟩ hRc rfl (rest := []) rfl (Nat.le_of_ble_eq_true rfl) dL_law_1600 (fun H locs hP hS => ?_)
      replace hS := hS.1
      refine W.widen (k := cl + 8) (n := sl + 48) (Nat.le_refl _) (Nat.le_refl _) ?_
      refine lv_iload C.1 C.2.1 dL_law_1603 (lv_at hl 1 rfl) ?_
      refine b_ieq (tgt := 1610) C dL_law_1605 (by decide) h (fun h => ?_) (fun h => ?_)
      · refine lv_iload C.1 C.2.1 dL_law_1610 (lv_at hl 1 rfl) ?_
        refine b_ne (tgt := 1627) C dL_law_1612 (by decide) h (fun h => ?_) (fun h => ?_)
        · refine lv_aload_n C.1 C.2.1 dL_law_1615 rfl (lv_at hl 5 rfl) ?_
          refine lv_iconst (v := 0) C.1 C.2.1 dL_law_1616 (by decide) ?_
          refine r_aL C hK hP dL_law_1617 h (fun y8 h => ?_)
          refine lv_iload C.1 C.2.1 dL_law_1618 (lv_at hl 0 rfl) ?_
          refine lv_i2l C.1 C.2.1 dL_law_1620 rfl ?_
          refine b_lcmp (tgt := 1627) C dL_law_1621 dL_law_1622 (by decide) h (fun h => ?_) (fun h => ?_)
          · refine lv_goto (tgt := 2033) C.1 C.2.1 dL_law_1627 (by decide) ?_
            have e := Option.some.inj h
            exact hk r6.2 _ _ _ e.symm hP hS (lv_sub hl [2, 3, 4, 5, 6] rfl)
          · exact absurd (hno 0 (Option.some.inj h).symm) (by decide)
        · refine lv_goto (tgt := 2033) C.1 C.2.1 dL_law_1627 (by decide) ?_
          have e := Option.some.inj h
          exact hk r6.2 _ _ _ e.symm hP hS (lv_sub hl [2, 3, 4, 5, 6] rfl)
      · exact absurd (hno 0 (Option.some.inj h).symm) (by decide)
    · refine lv_iconst (v := 1) C.1 C.2.1 dL_law_1589 (by decide) ?_
      refine lv_goto (tgt := 1594) C.1 C.2.1 dL_law_1590 (by decide) ?_
      obtain ⟨r9, hc, h⟩ := bS h
      refine r_V1 C hK hX hb hP ⟨hS, rfl⟩ hl.1 (kX7_cellPlace hTm hc) hTm cl_7 wd_1470 mo_X7_cellPlace wd_1471 wd_1472 ⟨Nat.le_of_ble_eq_true rfl, Nat.le_of_ble_eq_true rfl⟩ hRc rfl (rest := []) rfl (Nat.le_of_ble_eq_true rfl) dL_law_1594 (fun H locs hP hS => ?_)
      replace hS := hS.1
      refine W.widen (k := cl + 8) (n := sl + 48) (Nat.le_refl _) (Nat.le_refl _) ?_
      refine lv_istore (lv' := [(6, .int r9.1), (5, .int r3.1), (0, .ref b), (1, .ref x), (2, .ref mm), (3, .ref out), (4, .int i)]) C.1 C.2.1 dL_law_1597 hl (by decide) rfl (fun ls hl => ?_)
      refine lv_aload_n C.1 C.2.1 dL_law_1599 rfl (lv_at hl 4 rfl) ?_
      obtain ⟨r10, hc, h⟩ := bS h
      refine r_V1 C hK hX hb hP ⟨hS, rfl⟩ hl.1 (kX7_thrown hTm hc) hTm cl_7 wd_1182 mo_X7_thrown wd_1183 wd_1184 ⟨Nat.le_of_ble_eq_true rfl, Nat.le_of_ble_eq_true rfl⟩ hRc rfl (rest := []) rfl (Nat.le_of_ble_eq_true rfl) dL_law_1600 (fun H locs hP hS => ?_)
      replace hS := hS.1
      refine W.widen (k := cl + 8) (n := sl + 48) (Nat.le_refl _) (Nat.le_refl _) ?_
      refine lv_iload C.1 C.2.1 dL_law_1603 (lv_at hl 1 rfl) ?_
      refine b_ieq (tgt := 1610) C dL_law_1605 (by decide) h (fun h => ?_) (fun h => ?_)
      · refine lv_iload C.1 C.2.1 dL_law_1610 (lv_at hl 1 rfl) ?_
        refine b_ne (tgt := 1627) C dL_law_1612 (by decide) h (fun h => ?_) (fun h => ?_)
        · refine lv_aload_n C.1 C.2.1 dL_law_1615 rfl (lv_at hl 5 rfl) ?_
          refine lv_iconst (v := 0) C.1 C.2.1 dL_law_1616 (by decide) ?_
          refine r_aL C hK hP dL_law_1617 h (fun y11 h => ?_)
          refine lv_iload C.1 C.2.1 dL_law_1618 (lv_at hl 0 rfl) ?_
          refine lv_i2l C.1 C.2.1 dL_law_1620 rfl ?_
          refine b_lcmp (tgt := 1627) C dL_law_1621 dL_law_1622 (by decide) h (fun h => ?_) (fun h => ?_)
          · refine lv_goto (tgt := 2033) C.1 C.2.1 dL_law_1627 (by decide) ?_
            have e := Option.some.inj h
            exact hk r9.2 _ _ _ e.symm hP hS (lv_sub hl [2, 3, 4, 5, 6] rfl)
          · exact absurd (hno 0 (Option.some.inj h).symm) (by decide)
        · refine lv_goto (tgt := 2033) C.1 C.2.1 dL_law_1627 (by decide) ?_
          have e := Option.some.inj h
          exact hk r9.2 _ _ _ e.symm hP hS (lv_sub hl [2, 3, 4, 5, 6] rfl)
      · exact absurd (hno 0 (Option.some.inj h).symm) (by decide)
  · refine lv_iconst (v := 1) C.1 C.2.1 dL_law_1562 (by decide) ?_
    refine lv_goto (tgt := 1567) C.1 C.2.1 dL_law_1563 (by decide) ?_
    refine lv_aload_n C.1 C.2.1 dL_law_1567 rfl (lv_at hl 3 rfl) ?_
    obtain ⟨r12, hc, h⟩ := bS h
    refine r_W (n := 4) C hK hX hN hb hP hS hl.1 (kL_cellPlace hfl hc) wd_1023 wd_1025 wd_74 ⟨by decide +kernel, by decide +kernel, by decide +kernel⟩ wd_1024 ⟨Nat.le_of_ble_eq_true rfl, Nat.le_of_ble_eq_true rfl⟩ (k1 := cl + 8) (k2 := sl + 48) ⟨Nat.add_le_add_left (Nat.le_of_ble_eq_true rfl) _, Nat.add_le_add_left (Nat.le_of_ble_eq_true rfl) _⟩ hRc rfl (rest := []) rfl (Nat.le_of_ble_eq_true rfl) dL_law_1568 (fun H locs hP hS => ?_)
    refine lv_istore (lv' := [(5, .int r12.1), (0, .ref b), (1, .ref x), (2, .ref mm), (3, .ref out), (4, .int i)]) C.1 C.2.1 dL_law_1571 hl (by decide) rfl (fun ls hl => ?_)
    refine lv_aload_n C.1 C.2.1 dL_law_1573 rfl (lv_at hl 3 rfl) ?_
    refine lv_aload_n C.1 C.2.1 dL_law_1574 rfl (lv_at hl 1 rfl) ?_
    refine lv_iload C.1 C.2.1 dL_law_1575 (lv_at hl 5 rfl) ?_
    refine lv_iconst (v := 1) C.1 C.2.1 dL_law_1577 (by decide) ?_
    refine lv_iadd C.1 C.2.1 dL_law_1578 ?_
    refine r_scr C hXs hbl hbA hS dL_law_1579 h (fun t13 h => ?_)
    refine lv_aload_n C.1 C.2.1 dL_law_1580 rfl (lv_at hl 1 rfl) ?_
    refine lv_iload C.1 C.2.1 dL_law_1581 (lv_at hl 5 rfl) ?_
    refine lv_iconst (v := 2) C.1 C.2.1 dL_law_1583 (by decide) ?_
    refine lv_iadd C.1 C.2.1 dL_law_1584 ?_
    refine r_scr C hXs hbl hbA hS dL_law_1585 h (fun t14 h => ?_)
    refine b_eq (tgt := 1593) C dL_law_1586 (by decide) h (fun h => ?_) (fun h => ?_)
    · refine lv_iconst (v := 0) C.1 C.2.1 dL_law_1593 (by decide) ?_
      obtain ⟨r15, hc, h⟩ := bS h
      refine r_V1 C hK hX hb hP ⟨hS, rfl⟩ hl.1 (kX7_cellPlace hTm hc) hTm cl_7 wd_1470 mo_X7_cellPlace wd_1471 wd_1472 ⟨Nat.le_of_ble_eq_true rfl, Nat.le_of_ble_eq_true rfl⟩ hRc rfl (rest := []) rfl (Nat.le_of_ble_eq_true rfl) dL_law_1594 (fun H locs hP hS => ?_)
      replace hS := hS.1
      refine W.widen (k := cl + 8) (n := sl + 48) (Nat.le_refl _) (Nat.le_refl _) ?_
      refine lv_istore (lv' := [(6, .int r15.1), (5, .int r12.1), (0, .ref b), (1, .ref x), (2, .ref mm), (3, .ref out), (4, .int i)]) C.1 C.2.1 dL_law_1597 hl (by decide) rfl (fun ls hl => ?_)
      refine lv_aload_n C.1 C.2.1 dL_law_1599 rfl (lv_at hl 4 rfl) ?_
      obtain ⟨r16, hc, h⟩ := bS h
      refine r_V1 C hK hX hb hP ⟨hS, rfl⟩ hl.1 (kX7_thrown hTm hc) hTm cl_7 wd_1182 mo_X7_thrown wd_1183 wd_1184 ⟨Nat.le_of_ble_eq_true rfl, Nat.le_of_ble_eq_true rfl⟩ hRc rfl (rest := []) rfl (Nat.le_of_ble_eq_true rfl) dL_law_1600 (fun H locs hP hS => ?_)
      replace hS := hS.1
      refine W.widen (k := cl + 8) (n := sl + 48) (Nat.le_refl _) (Nat.le_refl _) ?_
      refine lv_iload C.1 C.2.1 dL_law_1603 (lv_at hl 1 rfl) ?_
      refine b_ieq (tgt := 1610) C dL_law_1605 (by decide) h (fun h => ?_) (fun h => ?_)
      · refine lv_iload C.1 C.2.1 dL_law_1610 (lv_at hl 1 rfl) ?_
        refine b_ne (tgt := 1627) C dL_law_1612 (by decide) h (fun h => ?_) (fun h => ?_)
        · refine lv_aload_n C.1 C.2.1 dL_law_1615 rfl (lv_at hl 5 rfl) ?_
          refine lv_iconst (v := 0) C.1 C.2.1 dL_law_1616 (by decide) ?_
          refine r_aL C hK hP dL_law_1617 h (fun y17 h => ?_)
          refine lv_iload C.1 C.2.1 dL_law_1618 (lv_at hl 0 rfl) ?_
          refine lv_i2l C.1 C.2.1 dL_law_1620 rfl ?_
          refine b_lcmp (tgt := 1627) C dL_law_1621 dL_law_1622 (by decide) h (fun h => ?_) (fun h => ?_)
          · refine lv_goto (tgt := 2033) C.1 C.2.1 dL_law_1627 (by decide) ?_
            have e := Option.some.inj h
            exact hk r15.2 _ _ _ e.symm hP hS (lv_sub hl [2, 3, 4, 5, 6] rfl)
          · exact absurd (hno 0 (Option.some.inj h).symm) (by decide)
        · refine lv_goto (tgt := 2033) C.1 C.2.1 dL_law_1627 (by decide) ?_
          have e := Option.some.inj h
          exact hk r15.2 _ _ _ e.symm hP hS (lv_sub hl [2, 3, 4, 5, 6] rfl)
      · exact absurd (hno 0 (Option.some.inj h).symm) (by decide)
    · refine lv_iconst (v := 1) C.1 C.2.1 dL_law_1589 (by decide) ?_
      refine lv_goto (tgt := 1594) C.1 C.2.1 dL_law_1590 (by decide) ?_
      obtain ⟨r18, hc, h⟩ := bS h
      refine r_V1 C hK hX hb hP ⟨hS, rfl⟩ hl.1 (kX7_cellPlace hTm hc) hTm cl_7 wd_1470 mo_X7_cellPlace wd_1471 wd_1472 ⟨Nat.le_of_ble_eq_true rfl, Nat.le_of_ble_eq_true rfl⟩ hRc rfl (rest := []) rfl (Nat.le_of_ble_eq_true rfl) dL_law_1594 (fun H locs hP hS => ?_)
      replace hS := hS.1
      refine W.widen (k := cl + 8) (n := sl + 48) (Nat.le_refl _) (Nat.le_refl _) ?_
      refine lv_istore (lv' := [(6, .int r18.1), (5, .int r12.1), (0, .ref b), (1, .ref x), (2, .ref mm), (3, .ref out), (4, .int i)]) C.1 C.2.1 dL_law_1597 hl (by decide) rfl (fun ls hl => ?_)
      refine lv_aload_n C.1 C.2.1 dL_law_1599 rfl (lv_at hl 4 rfl) ?_
      obtain ⟨r19, hc, h⟩ := bS h
      refine r_V1 C hK hX hb hP ⟨hS, rfl⟩ hl.1 (kX7_thrown hTm hc) hTm cl_7 wd_1182 mo_X7_thrown wd_1183 wd_1184 ⟨Nat.le_of_ble_eq_true rfl, Nat.le_of_ble_eq_true rfl⟩ hRc rfl (rest := []) rfl (Nat.le_of_ble_eq_true rfl) dL_law_1600 (fun H locs hP hS => ?_)
      replace hS := hS.1
      refine W.widen (k := cl + 8) (n := sl + 48) (Nat.le_refl _) (Nat.le_refl _) ?_
      refine lv_iload C.1 C.2.1 dL_law_1603 (lv_at hl 1 rfl) ?_
      refine b_ieq (tgt := 1610) C dL_law_1605 (by decide) h (fun h => ?_) (fun h => ?_)
      · refine lv_iload C.1 C.2.1 dL_law_1610 (lv_at hl 1 rfl) ?_
        refine b_ne (tgt := 1627) C dL_law_1612 (by decide) h (fun h => ?_) (fun h => ?_)
        · refine lv_aload_n C.1 C.2.1 dL_law_1615 rfl (lv_at hl 5 rfl) ?_
          refine lv_iconst (v := 0) C.1 C.2.1 dL_law_1616 (by decide) ?_
          refine r_aL C hK hP dL_law_1617 h (fun y20 h => ?_)
          refine lv_iload C.1 C.2.1 dL_law_1618 (lv_at hl 0 rfl) ?_
          refine lv_i2l C.1 C.2.1 dL_law_1620 rfl ?_
          refine b_lcmp (tgt := 1627) C dL_law_1621 dL_law_1622 (by decide) h (fun h => ?_) (fun h => ?_)
          · refine lv_goto (tgt := 2033) C.1 C.2.1 dL_law_1627 (by decide) ?_
            have e := Option.some.inj h
            exact hk r18.2 _ _ _ e.symm hP hS (lv_sub hl [2, 3, 4, 5, 6] rfl)
          · exact absurd (hno 0 (Option.some.inj h).symm) (by decide)
        · refine lv_goto (tgt := 2033) C.1 C.2.1 dL_law_1627 (by decide) ?_
          have e := Option.some.inj h
          exact hk r18.2 _ _ _ e.symm hP hS (lv_sub hl [2, 3, 4, 5, 6] rfl)
      · exact absurd (hno 0 (Option.some.inj h).symm) (by decide)
noncomputable def fL_c29 (n : Nat) (Sh : Sp) (xs : Nat → Int32) (L x mm out : Nat) (i : Int32) (M : Mm) : Option (Mm ⊕ Int32) :=
  scr xs L (i + 1) fun t1 =>
  scr xs L (i + 2) fun t2 =>
  scr xs L (i + 3) fun t3 =>
  (fL_cellAt n Sh M x t1 t2 t3 out).bind fun r4 =>
  scr xs L (i + 1) fun t5 =>
  scr xs L (i + 2) fun t6 =>
  scr xs L (i + 3) fun t7 =>
  (fX7_cellAt n Sh r4.2 mm t5 t6 t7).bind fun r8 =>
  (fX7_thrown n Sh r8.2 mm).bind fun r9 =>
  if r9 = r4.1 then
    if r4.1 = 0 then
      aL Sh r8.2 out 0 fun y10 =>
      if (y10 : Int64) = (Int32.toInt64 r8.1) then
        some (Sum.inl r8.2)
      else
        some (Sum.inr 0)
    else
      some (Sum.inl r8.2)
  else
    some (Sum.inr 0)
set_option maxRecDepth 100000 in
set_option maxHeartbeats 4000000 in
theorem kL_c29 (C : CallFix p m c cL_law 7 s args GW RL) (hfl : l.stackTraces = false) (hK : KK G s) (hX : XE G s s.heap) (hN : NC s) (hb : G.1 ≤ s.heap.size) (hXs : va_X b L xs s s.heap) (hbl : b < s.heap.size) (hbA : ¬ AA G b) (hTx : Sh x = some (.inl 6)) (hTm : Sh mm = some (.inl 7)) {z : Mm ⊕ Int32} (h : fL_c29 n Sh xs L x mm out i M = some z) (hRc : cl + 8 ≤ room_1.cells ∧ sl + 48 ≤ room_1.slots) (hP : HM G Sh M H) (hS : va_S (AA G) s.heap H locs) (hl : lv_has ls 7 [(0, .ref b), (1, .ref x), (2, .ref mm), (3, .ref out), (4, .int i)]) (hno : ∀ q : Int32, z = .inr q → q = 1)
    (hk : ∀ (M1 : Mm) (H : Heap) (locs : List Loc) (ls : Array Slot), z = .inl M1 → HM G Sh M1 H → va_S (AA G) s.heap H locs → lv_has ls 7 [(0, .ref b), (1, .ref x), (2, .ref mm), (3, .ref out), (4, .int i)] → W p l e room_1 s m args below meth c H locs (cl + 8) (sl + 48) Q (F0 m 2033 ls [])) :
    W p l e room_1 s m args below meth c H locs cl sl Q (F0 m 1630 ls []) := by
  have hR0 : cl + 0 ≤ room_1.cells ∧ sl + 0 ≤ room_1.slots := ⟨Nat.le_trans (Nat.le_add_right cl 8) hRc.1, Nat.le_trans (Nat.le_add_right sl 48) hRc.2⟩
  unfold fL_c29 at h
  refine lv_aload_n C.1 C.2.1 dL_law_1630 rfl (lv_at hl 1 rfl) ?_
  refine lv_aload_n C.1 C.2.1 dL_law_1631 rfl (lv_at hl 0 rfl) ?_
  refine lv_iload C.1 C.2.1 dL_law_1632 (lv_at hl 4 rfl) ?_
  refine lv_iconst (v := 1) C.1 C.2.1 dL_law_1634 (by decide) ?_
  refine lv_iadd C.1 C.2.1 dL_law_1635 ?_
  refine r_scr C hXs hbl hbA hS dL_law_1636 h (fun t1 h => ?_)
  refine lv_aload_n C.1 C.2.1 dL_law_1637 rfl (lv_at hl 0 rfl) ?_
  refine lv_iload C.1 C.2.1 dL_law_1638 (lv_at hl 4 rfl) ?_
  refine lv_iconst (v := 2) C.1 C.2.1 dL_law_1640 (by decide) ?_
  refine lv_iadd C.1 C.2.1 dL_law_1641 ?_
  refine r_scr C hXs hbl hbA hS dL_law_1642 h (fun t2 h => ?_)
  refine lv_aload_n C.1 C.2.1 dL_law_1643 rfl (lv_at hl 0 rfl) ?_
  refine lv_iload C.1 C.2.1 dL_law_1644 (lv_at hl 4 rfl) ?_
  refine lv_iconst (v := 3) C.1 C.2.1 dL_law_1646 (by decide) ?_
  refine lv_iadd C.1 C.2.1 dL_law_1647 ?_
  refine r_scr C hXs hbl hbA hS dL_law_1648 h (fun t3 h => ?_)
  refine lv_aload_n C.1 C.2.1 dL_law_1649 rfl (lv_at hl 3 rfl) ?_
  obtain ⟨r4, hc, h⟩ := bS h
  refine r_W (n := 5) C hK hX hN hb hP hS hl.1 (kL_cellAt hfl hc) wd_1053 wd_1055 wd_74 ⟨by decide +kernel, by decide +kernel, by decide +kernel⟩ wd_1054 ⟨Nat.le_of_ble_eq_true rfl, Nat.le_of_ble_eq_true rfl⟩ (k1 := cl + 8) (k2 := sl + 48) ⟨Nat.add_le_add_left (Nat.le_of_ble_eq_true rfl) _, Nat.add_le_add_left (Nat.le_of_ble_eq_true rfl) _⟩ hRc rfl (rest := []) rfl (Nat.le_of_ble_eq_true rfl) dL_law_1650 (fun H locs hP hS => ?_)
  refine lv_istore (lv' := [(5, .int r4.1), (0, .ref b), (1, .ref x), (2, .ref mm), (3, .ref out), (4, .int i)]) C.1 C.2.1 dL_law_1653 hl (by decide) rfl (fun ls hl => ?_)
  refine lv_aload_n C.1 C.2.1 dL_law_1655 rfl (lv_at hl 3 rfl) ?_
  refine lv_aload_n C.1 C.2.1 dL_law_1656 rfl (lv_at hl 1 rfl) ?_
  refine lv_iload C.1 C.2.1 dL_law_1657 (lv_at hl 5 rfl) ?_
  refine lv_iconst (v := 1) C.1 C.2.1 dL_law_1659 (by decide) ?_
  refine lv_iadd C.1 C.2.1 dL_law_1660 ?_
  refine r_scr C hXs hbl hbA hS dL_law_1661 h (fun t5 h => ?_)
  refine lv_aload_n C.1 C.2.1 dL_law_1662 rfl (lv_at hl 1 rfl) ?_
  refine lv_iload C.1 C.2.1 dL_law_1663 (lv_at hl 5 rfl) ?_
  refine lv_iconst (v := 2) C.1 C.2.1 dL_law_1665 (by decide) ?_
  refine lv_iadd C.1 C.2.1 dL_law_1666 ?_
  refine r_scr C hXs hbl hbA hS dL_law_1667 h (fun t6 h => ?_)
  refine lv_aload_n C.1 C.2.1 dL_law_1668 rfl (lv_at hl 1 rfl) ?_
  refine lv_iload C.1 C.2.1 dL_law_1669 (lv_at hl 5 rfl) ?_
  refine lv_iconst (v := 3) C.1 C.2.1 dL_law_1671 (by decide) ?_
  refine lv_iadd C.1 C.2.1 dL_law_1672 ?_
  refine r_scr C hXs hbl hbA hS dL_law_1673 h (fun t7 h => ?_)
  obtain ⟨r8, hc, h⟩ := bS h
  refine r_V1 C hK hX hb hP ⟨hS, rfl⟩ hl.1 (kX7_cellAt hTm hc) hTm cl_7 wd_1486 mo_X7_cellAt wd_1487 wd_1488 ⟨Nat.le_of_ble_eq_true rfl, Nat.le_of_ble_eq_true rfl⟩ hRc rfl (rest := []) rfl (Nat.le_of_ble_eq_true rfl) dL_law_1674 (fun H locs hP hS => ?_)
  replace hS := hS.1
  refine W.widen (k := cl + 8) (n := sl + 48) (Nat.le_refl _) (Nat.le_refl _) ?_
  refine lv_istore (lv' := [(6, .int r8.1), (5, .int r4.1), (0, .ref b), (1, .ref x), (2, .ref mm), (3, .ref out), (4, .int i)]) C.1 C.2.1 dL_law_1677 hl (by decide) rfl (fun ls hl => ?_)
  refine lv_aload_n C.1 C.2.1 dL_law_1679 rfl (lv_at hl 4 rfl) ?_
  obtain ⟨r9, hc, h⟩ := bS h
  refine r_V1 C hK hX hb hP ⟨hS, rfl⟩ hl.1 (kX7_thrown hTm hc) hTm cl_7 wd_1182 mo_X7_thrown wd_1183 wd_1184 ⟨Nat.le_of_ble_eq_true rfl, Nat.le_of_ble_eq_true rfl⟩ hRc rfl (rest := []) rfl (Nat.le_of_ble_eq_true rfl) dL_law_1680 (fun H locs hP hS => ?_)
  replace hS := hS.1
  refine W.widen (k := cl + 8) (n := sl + 48) (Nat.le_refl _) (Nat.le_refl _) ?_
  refine lv_iload C.1 C.2.1 dL_law_1683 (lv_at hl 1 rfl) ?_
  refine b_ieq (tgt := 1690) C dL_law_1685 (by decide) h (fun h => ?_) (fun h => ?_)
  · refine lv_iload C.1 C.2.1 dL_law_1690 (lv_at hl 1 rfl) ?_
    refine b_ne (tgt := 1707) C dL_law_1692 (by decide) h (fun h => ?_) (fun h => ?_)
    · refine lv_aload_n C.1 C.2.1 dL_law_1695 rfl (lv_at hl 5 rfl) ?_
      refine lv_iconst (v := 0) C.1 C.2.1 dL_law_1696 (by decide) ?_
      refine r_aL C hK hP dL_law_1697 h (fun y10 h => ?_)
      refine lv_iload C.1 C.2.1 dL_law_1698 (lv_at hl 0 rfl) ?_
      refine lv_i2l C.1 C.2.1 dL_law_1700 rfl ?_
      refine b_lcmp (tgt := 1707) C dL_law_1701 dL_law_1702 (by decide) h (fun h => ?_) (fun h => ?_)
      · refine lv_goto (tgt := 2033) C.1 C.2.1 dL_law_1707 (by decide) ?_
        have e := Option.some.inj h
        exact hk r8.2 _ _ _ e.symm hP hS (lv_sub hl [2, 3, 4, 5, 6] rfl)
      · exact absurd (hno 0 (Option.some.inj h).symm) (by decide)
    · refine lv_goto (tgt := 2033) C.1 C.2.1 dL_law_1707 (by decide) ?_
      have e := Option.some.inj h
      exact hk r8.2 _ _ _ e.symm hP hS (lv_sub hl [2, 3, 4, 5, 6] rfl)
  · exact absurd (hno 0 (Option.some.inj h).symm) (by decide)
noncomputable def fL_c30 (n : Nat) (Sh : Sp) (xs : Nat → Int32) (L x mm out : Nat) (i : Int32) (M : Mm) : Option (Mm ⊕ Int32) :=
  scr xs L (i + 1) fun t1 =>
  scr xs L (i + 2) fun t2 =>
  if t2 = 0 then
    (fL_header n Sh M x t1 0 out).bind fun r3 =>
    scr xs L (i + 1) fun t4 =>
    scr xs L (i + 2) fun t5 =>
    if t5 = 0 then
      (fX7_header n Sh r3.2 mm t4 0).bind fun r6 =>
      (fX7_thrown n Sh r6.2 mm).bind fun r7 =>
      if r7 = r3.1 then
        if r3.1 = 0 then
          aL Sh r6.2 out 0 fun y8 =>
          if (y8 : Int64) = (Int32.toInt64 r6.1) then
            some (Sum.inl r6.2)
          else
            some (Sum.inr 0)
        else
          some (Sum.inl r6.2)
      else
        some (Sum.inr 0)
    else
      (fX7_header n Sh r3.2 mm t4 1).bind fun r9 =>
      (fX7_thrown n Sh r9.2 mm).bind fun r10 =>
      if r10 = r3.1 then
        if r3.1 = 0 then
          aL Sh r9.2 out 0 fun y11 =>
          if (y11 : Int64) = (Int32.toInt64 r9.1) then
            some (Sum.inl r9.2)
          else
            some (Sum.inr 0)
        else
          some (Sum.inl r9.2)
      else
        some (Sum.inr 0)
  else
    (fL_header n Sh M x t1 1 out).bind fun r12 =>
    scr xs L (i + 1) fun t13 =>
    scr xs L (i + 2) fun t14 =>
    if t14 = 0 then
      (fX7_header n Sh r12.2 mm t13 0).bind fun r15 =>
      (fX7_thrown n Sh r15.2 mm).bind fun r16 =>
      if r16 = r12.1 then
        if r12.1 = 0 then
          aL Sh r15.2 out 0 fun y17 =>
          if (y17 : Int64) = (Int32.toInt64 r15.1) then
            some (Sum.inl r15.2)
          else
            some (Sum.inr 0)
        else
          some (Sum.inl r15.2)
      else
        some (Sum.inr 0)
    else
      (fX7_header n Sh r12.2 mm t13 1).bind fun r18 =>
      (fX7_thrown n Sh r18.2 mm).bind fun r19 =>
      if r19 = r12.1 then
        if r12.1 = 0 then
          aL Sh r18.2 out 0 fun y20 =>
          if (y20 : Int64) = (Int32.toInt64 r18.1) then
            some (Sum.inl r18.2)
          else
            some (Sum.inr 0)
        else
          some (Sum.inl r18.2)
      else
        some (Sum.inr 0)
set_option maxRecDepth 100000 in
set_option maxHeartbeats 4000000 in
theorem kL_c30 (C : CallFix p m c cL_law 7 s args GW RL) (hfl : l.stackTraces = false) (hK : KK G s) (hX : XE G s s.heap) (hN : NC s) (hb : G.1 ≤ s.heap.size) (hXs : va_X b L xs s s.heap) (hbl : b < s.heap.size) (hbA : ¬ AA G b) (hTx : Sh x = some (.inl 6)) (hTm : Sh mm = some (.inl 7)) {z : Mm ⊕ Int32} (h : fL_c30 n Sh xs L x mm out i M = some z) (hRc : cl + 8 ≤ room_1.cells ∧ sl + 48 ≤ room_1.slots) (hP : HM G Sh M H) (hS : va_S (AA G) s.heap H locs) (hl : lv_has ls 7 [(0, .ref b), (1, .ref x), (2, .ref mm), (3, .ref out), (4, .int i)]) (hno : ∀ q : Int32, z = .inr q → q = 1)
    (hk : ∀ (M1 : Mm) (H : Heap) (locs : List Loc) (ls : Array Slot), z = .inl M1 → HM G Sh M1 H → va_S (AA G) s.heap H locs → lv_has ls 7 [(0, .ref b), (1, .ref x), (2, .ref mm), (3, .ref out), (4, .int i)] → W p l e room_1 s m args below meth c H locs (cl + 8) (sl + 48) Q (F0 m 2033 ls [])) :
    W p l e room_1 s m args below meth c H locs cl sl Q (F0 m 1710 ls []) := by
  have hR0 : cl + 0 ≤ room_1.cells ∧ sl + 0 ≤ room_1.slots := ⟨Nat.le_trans (Nat.le_add_right cl 8) hRc.1, Nat.le_trans (Nat.le_add_right sl 48) hRc.2⟩
  unfold fL_c30 at h
  refine lv_aload_n C.1 C.2.1 dL_law_1710 rfl (lv_at hl 1 rfl) ?_
  refine lv_aload_n C.1 C.2.1 dL_law_1711 rfl (lv_at hl 0 rfl) ?_
  refine lv_iload C.1 C.2.1 dL_law_1712 (lv_at hl 4 rfl) ?_
  refine lv_iconst (v := 1) C.1 C.2.1 dL_law_1714 (by decide) ?_
  refine lv_iadd C.1 C.2.1 dL_law_1715 ?_
  refine r_scr C hXs hbl hbA hS dL_law_1716 h (fun t1 h => ?_)
  refine lv_aload_n C.1 C.2.1 dL_law_1717 rfl (lv_at hl 0 rfl) ?_
  refine lv_iload C.1 C.2.1 dL_law_1718 (lv_at hl 4 rfl) ?_
  refine lv_iconst (v := 2) C.1 C.2.1 dL_law_1720 (by decide) ?_
  refine lv_iadd C.1 C.2.1 dL_law_1721 ?_
  refine r_scr C hXs hbl hbA hS dL_law_1722 h (fun t2 h => ?_)
  refine b_eq (tgt := 1730) C dL_law_1723 (by decide) h (fun h => ?_) (fun h => ?_)
  · refine lv_iconst (v := 0) C.1 C.2.1 dL_law_1730 (by decide) ?_
    refine lv_aload_n C.1 C.2.1 dL_law_1731 rfl (lv_at hl 3 rfl) ?_
    obtain ⟨r3, hc, h⟩ := bS h
    refine r_W (n := 4) C hK hX hN hb hP hS hl.1 (kL_header hfl hc) wd_1068 wd_1070 wd_74 ⟨by decide +kernel, by decide +kernel, by decide +kernel⟩ wd_1069 ⟨Nat.le_of_ble_eq_true rfl, Nat.le_of_ble_eq_true rfl⟩ (k1 := cl + 8) (k2 := sl + 48) ⟨Nat.add_le_add_left (Nat.le_of_ble_eq_true rfl) _, Nat.add_le_add_left (Nat.le_of_ble_eq_true rfl) _⟩ hRc rfl (rest := []) rfl (Nat.le_of_ble_eq_true rfl) dL_law_1732 (fun H locs hP hS => ?_)
    refine lv_istore (lv' := [(5, .int r3.1), (0, .ref b), (1, .ref x), (2, .ref mm), (3, .ref out), (4, .int i)]) C.1 C.2.1 dL_law_1735 hl (by decide) rfl (fun ls hl => ?_)
    refine lv_aload_n C.1 C.2.1 dL_law_1737 rfl (lv_at hl 3 rfl) ?_
    refine lv_aload_n C.1 C.2.1 dL_law_1738 rfl (lv_at hl 1 rfl) ?_
    refine lv_iload C.1 C.2.1 dL_law_1739 (lv_at hl 5 rfl) ?_
    refine lv_iconst (v := 1) C.1 C.2.1 dL_law_1741 (by decide) ?_
    refine lv_iadd C.1 C.2.1 dL_law_1742 ?_
    refine r_scr C hXs hbl hbA hS dL_law_1743 h (fun t4 h => ?_)
    refine lv_aload_n C.1 C.2.1 dL_law_1744 rfl (lv_at hl 1 rfl) ?_
    refine lv_iload C.1 C.2.1 dL_law_1745 (lv_at hl 5 rfl) ?_
    refine lv_iconst (v := 2) C.1 C.2.1 dL_law_1747 (by decide) ?_
    refine lv_iadd C.1 C.2.1 dL_law_1748 ?_
    refine r_scr C hXs hbl hbA hS dL_law_1749 h (fun t5 h => ?_)
    refine b_eq (tgt := 1757) C dL_law_1750 (by decide) h (fun h => ?_) (fun h => ?_)
    · refine lv_iconst (v := 0) C.1 C.2.1 dL_law_1757 (by decide) ?_
      obtain ⟨r6, hc, h⟩ := bS h
      refine r_V1 C hK hX hb hP ⟨hS, rfl⟩ hl.1 (kX7_header hTm hc) hTm cl_7 wd_1498 mo_X7_header wd_1499 wd_1500 ⟨Nat.le_of_ble_eq_true rfl, Nat.le_of_ble_eq_true rfl⟩ hRc rfl (rest := []) rfl (Nat.le_of_ble_eq_true rfl) dL_law_1758 (fun H locs hP hS => ?_)
      replace hS := hS.1
      refine W.widen (k := cl + 8) (n := sl + 48) (Nat.le_refl _) (Nat.le_refl _) ?_
      refine lv_istore (lv' := [(6, .int r6.1), (5, .int r3.1), (0, .ref b), (1, .ref x), (2, .ref mm), (3, .ref out), (4, .int i)]) C.1 C.2.1 dL_law_1761 hl (by decide) rfl (fun ls hl => ?_)
      refine lv_aload_n C.1 C.2.1 dL_law_1763 rfl (lv_at hl 4 rfl) ?_
      obtain ⟨r7, hc, h⟩ := bS h
      refine r_V1 C hK hX hb hP ⟨hS, rfl⟩ hl.1 (kX7_thrown hTm hc) hTm cl_7 wd_1182 mo_X7_thrown wd_1183 wd_1184 ⟨Nat.le_of_ble_eq_true rfl, Nat.le_of_ble_eq_true rfl⟩ hRc rfl (rest := []) rfl (Nat.le_of_ble_eq_true rfl) dL_law_1764 (fun H locs hP hS => ?_)
      replace hS := hS.1
      refine W.widen (k := cl + 8) (n := sl + 48) (Nat.le_refl _) (Nat.le_refl _) ?_
      refine lv_iload C.1 C.2.1 dL_law_1767 (lv_at hl 1 rfl) ?_
      refine b_ieq (tgt := 1774) C dL_law_1769 (by decide) h (fun h => ?_) (fun h => ?_)
      · refine lv_iload C.1 C.2.1 dL_law_1774 (lv_at hl 1 rfl) ?_
        refine b_ne (tgt := 1791) C dL_law_1776 (by decide) h (fun h => ?_) (fun h => ?_)
        · refine lv_aload_n C.1 C.2.1 dL_law_1779 rfl (lv_at hl 5 rfl) ?_
          refine lv_iconst (v := 0) C.1 C.2.1 dL_law_1780 (by decide) ?_
          refine r_aL C hK hP dL_law_1781 h (fun y8 h => ?_)
          refine lv_iload C.1 C.2.1 dL_law_1782 (lv_at hl 0 rfl) ?_
          refine lv_i2l C.1 C.2.1 dL_law_1784 rfl ?_
          refine b_lcmp (tgt := 1791) C dL_law_1785 dL_law_1786 (by decide) h (fun h => ?_) (fun h => ?_)
          · refine lv_goto (tgt := 2033) C.1 C.2.1 dL_law_1791 (by decide) ?_
            have e := Option.some.inj h
            exact hk r6.2 _ _ _ e.symm hP hS (lv_sub hl [2, 3, 4, 5, 6] rfl)
          · exact absurd (hno 0 (Option.some.inj h).symm) (by decide)
        · refine lv_goto (tgt := 2033) C.1 C.2.1 dL_law_1791 (by decide) ?_
          have e := Option.some.inj h
          exact hk r6.2 _ _ _ e.symm hP hS (lv_sub hl [2, 3, 4, 5, 6] rfl)
      · exact absurd (hno 0 (Option.some.inj h).symm) (by decide)
    · refine lv_iconst (v := 1) C.1 C.2.1 dL_law_1753 (by decide) ?_
      refine lv_goto (tgt := 1758) C.1 C.2.1 dL_law_1754 (by decide) ?_
      obtain ⟨r9, hc, h⟩ := bS h
      refine r_V1 C hK hX hb hP ⟨hS, rfl⟩ hl.1 (kX7_header hTm hc) hTm cl_7 wd_1498 mo_X7_header wd_1499 wd_1500 ⟨Nat.le_of_ble_eq_true rfl, Nat.le_of_ble_eq_true rfl⟩ hRc rfl (rest := []) rfl (Nat.le_of_ble_eq_true rfl) dL_law_1758 (fun H locs hP hS => ?_)
      replace hS := hS.1
      refine W.widen (k := cl + 8) (n := sl + 48) (Nat.le_refl _) (Nat.le_refl _) ?_
      refine lv_istore (lv' := [(6, .int r9.1), (5, .int r3.1), (0, .ref b), (1, .ref x), (2, .ref mm), (3, .ref out), (4, .int i)]) C.1 C.2.1 dL_law_1761 hl (by decide) rfl (fun ls hl => ?_)
      refine lv_aload_n C.1 C.2.1 dL_law_1763 rfl (lv_at hl 4 rfl) ?_
      obtain ⟨r10, hc, h⟩ := bS h
      refine r_V1 C hK hX hb hP ⟨hS, rfl⟩ hl.1 (kX7_thrown hTm hc) hTm cl_7 wd_1182 mo_X7_thrown wd_1183 wd_1184 ⟨Nat.le_of_ble_eq_true rfl, Nat.le_of_ble_eq_true rfl⟩ hRc rfl (rest := []) rfl (Nat.le_of_ble_eq_true rfl) dL_law_1764 (fun H locs hP hS => ?_)
      replace hS := hS.1
      refine W.widen (k := cl + 8) (n := sl + 48) (Nat.le_refl _) (Nat.le_refl _) ?_
      refine lv_iload C.1 C.2.1 dL_law_1767 (lv_at hl 1 rfl) ?_
      refine b_ieq (tgt := 1774) C dL_law_1769 (by decide) h (fun h => ?_) (fun h => ?_)
      · refine lv_iload C.1 C.2.1 dL_law_1774 (lv_at hl 1 rfl) ?_
        refine b_ne (tgt := 1791) C dL_law_1776 (by decide) h (fun h => ?_) (fun h => ?_)
        · refine lv_aload_n C.1 C.2.1 dL_law_1779 rfl (lv_at hl 5 rfl) ?_
          refine lv_iconst (v := 0) C.1 C.2.1 dL_law_1780 (by decide) ?_
          refine r_aL C hK hP dL_law_1781 h (fun y11 h => ?_)
          refine lv_iload C.1 C.2.1 dL_law_1782 (lv_at hl 0 rfl) ?_
          refine lv_i2l C.1 C.2.1 dL_law_1784 rfl ?_
          refine b_lcmp (tgt := 1791) C dL_law_1785 dL_law_1786 (by decide) h (fun h => ?_) (fun h => ?_)
          · refine lv_goto (tgt := 2033) C.1 C.2.1 dL_law_1791 (by decide) ?_
            have e := Option.some.inj h
            exact hk r9.2 _ _ _ e.symm hP hS (lv_sub hl [2, 3, 4, 5, 6] rfl)
          · exact absurd (hno 0 (Option.some.inj h).symm) (by decide)
        · refine lv_goto (tgt := 2033) C.1 C.2.1 dL_law_1791 (by decide) ?_
          have e := Option.some.inj h
          exact hk r9.2 _ _ _ e.symm hP hS (lv_sub hl [2, 3, 4, 5, 6] rfl)
      · exact absurd (hno 0 (Option.some.inj h).symm) (by decide)
  · refine lv_iconst (v := 1) C.1 C.2.1 dL_law_1726 (by decide) ?_
    refine lv_goto (tgt := 1731) C.1 C.2.1 dL_law_1727 (by decide) ?_
    refine lv_aload_n C.1 C.2.1 dL_law_1731 rfl (lv_at hl 3 rfl) ?_
    obtain ⟨r12, hc, h⟩ := bS h
    refine r_W (n := 4) C hK hX hN hb hP hS hl.1 (kL_header hfl hc) wd_1068 wd_1070 wd_74 ⟨by decide +kernel, by decide +kernel, by decide +kernel⟩ wd_1069 ⟨Nat.le_of_ble_eq_true rfl, Nat.le_of_ble_eq_true rfl⟩ (k1 := cl + 8) (k2 := sl + 48) ⟨Nat.add_le_add_left (Nat.le_of_ble_eq_true rfl) _, Nat.add_le_add_left (Nat.le_of_ble_eq_true rfl) _⟩ hRc rfl (rest := []) rfl (Nat.le_of_ble_eq_true rfl) dL_law_1732 (fun H locs hP hS => ?_)
    refine lv_istore (lv' := [(5, .int r12.1), (0, .ref b), (1, .ref x), (2, .ref mm), (3, .ref out), (4, .int i)]) C.1 C.2.1 dL_law_1735 hl (by decide) rfl (fun ls hl => ?_)
    refine lv_aload_n C.1 C.2.1 dL_law_1737 rfl (lv_at hl 3 rfl) ?_
    refine lv_aload_n C.1 C.2.1 dL_law_1738 rfl (lv_at hl 1 rfl) ?_
    refine lv_iload C.1 C.2.1 dL_law_1739 (lv_at hl 5 rfl) ?_
    refine lv_iconst (v := 1) C.1 C.2.1 dL_law_1741 (by decide) ?_
    refine lv_iadd C.1 C.2.1 dL_law_1742 ?_
    refine r_scr C hXs hbl hbA hS dL_law_1743 h (fun t13 h => ?_)
    refine lv_aload_n C.1 C.2.1 dL_law_1744 rfl (lv_at hl 1 rfl) ?_
    refine lv_iload C.1 C.2.1 dL_law_1745 (lv_at hl 5 rfl) ?_
    refine lv_iconst (v := 2) C.1 C.2.1 dL_law_1747 (by decide) ?_
    refine lv_iadd C.1 C.2.1 dL_law_1748 ?_
    refine r_scr C hXs hbl hbA hS dL_law_1749 h (fun t14 h => ?_)
    refine b_eq (tgt := 1757) C dL_law_1750 (by decide) h (fun h => ?_) (fun h => ?_)
    · refine lv_iconst (v := 0) C.1 C.2.1 dL_law_1757 (by decide) ?_
      obtain ⟨r15, hc, h⟩ := bS h
      refine r_V1 C hK hX hb hP ⟨hS, rfl⟩ hl.1 (kX7_header hTm hc) hTm cl_7 wd_1498 mo_X7_header wd_1499 wd_1500 ⟨Nat.le_of_ble_eq_true rfl, Nat.le_of_ble_eq_true rfl⟩ hRc rfl (rest := []) rfl (Nat.le_of_ble_eq_true rfl) dL_law_1758 (fun H locs hP hS => ?_)
      replace hS := hS.1
      refine W.widen (k := cl + 8) (n := sl + 48) (Nat.le_refl _) (Nat.le_refl _) ?_
      refine lv_istore (lv' := [(6, .int r15.1), (5, .int r12.1), (0, .ref b), (1, .ref x), (2, .ref mm), (3, .ref out), (4, .int i)]) C.1 C.2.1 dL_law_1761 hl (by decide) rfl (fun ls hl => ?_)
      refine lv_aload_n C.1 C.2.1 dL_law_1763 rfl (lv_at hl 4 rfl) ?_
      obtain ⟨r16, hc, h⟩ := bS h
      refine r_V1 C hK hX hb hP ⟨hS, rfl⟩ hl.1 (kX7_thrown hTm hc) hTm cl_7 wd_1182 mo_X7_thrown wd_1183 wd_1184 ⟨Nat.le_of_ble_eq_true rfl, Nat.le_of_ble_eq_true rfl⟩ hRc rfl (rest := []) rfl (Nat.le_of_ble_eq_true rfl) dL_law_1764 (fun H locs hP hS => ?_)
      replace hS := hS.1
      refine W.widen (k := cl + 8) (n := sl + 48) (Nat.le_refl _) (Nat.le_refl _) ?_
      refine lv_iload C.1 C.2.1 dL_law_1767 (lv_at hl 1 rfl) ?_
      refine b_ieq (tgt := 1774) C dL_law_1769 (by decide) h (fun h => ?_) (fun h => ?_)
      · refine lv_iload C.1 C.2.1 dL_law_1774 (lv_at hl 1 rfl) ?_
        refine b_ne (tgt := 1791) C dL_law_1776 (by decide) h (fun h => ?_) (fun h => ?_)
        · refine lv_aload_n C.1 C.2.1 dL_law_1779 rfl (lv_at hl 5 rfl) ?_
          refine lv_iconst (v := 0) C.1 C.2.1 dL_law_1780 (by decide) ?_
          refine r_aL C hK hP dL_law_1781 h (fun y17 h => ?_)
          refine lv_iload C.1 C.2.1 dL_law_1782 (lv_at hl 0 rfl) ?_
          refine lv_i2l C.1 C.2.1 dL_law_1784 rfl ?_
          refine b_lcmp (tgt := 1791) C dL_law_1785 dL_law_1786 (by decide) h (fun h => ?_) (fun h => ?_)
          · refine lv_goto (tgt := 2033) C.1 C.2.1 dL_law_1791 (by decide) ?_
            have e := Option.some.inj h
            exact hk r15.2 _ _ _ e.symm hP hS (lv_sub hl [2, 3, 4, 5, 6] rfl)
          · exact absurd (hno 0 (Option.some.inj h).symm) (by decide)
        · refine lv_goto (tgt := 2033) C.1 C.2.1 dL_law_1791 (by decide) ?_
          have e := Option.some.inj h
          exact hk r15.2 _ _ _ e.symm hP hS (lv_sub hl [2, 3, 4, 5, 6] rfl)
      · exact absurd (hno 0 (Option.some.inj h).symm) (by decide)
    · refine lv_iconst (v := 1) C.1 C.2.1 dL_law_1753 (by decide) ?_
      refine lv_goto (tgt := 1758) C.1 C.2.1 dL_law_1754 (by decide) ?_
      obtain ⟨r18, hc, h⟩ := bS h
      refine r_V1 C hK hX hb hP ⟨hS, rfl⟩ hl.1 (kX7_header hTm hc) hTm cl_7 wd_1498 mo_X7_header wd_1499 wd_1500 ⟨Nat.le_of_ble_eq_true rfl, Nat.le_of_ble_eq_true rfl⟩ hRc rfl (rest := []) rfl (Nat.le_of_ble_eq_true rfl) dL_law_1758 (fun H locs hP hS => ?_)
      replace hS := hS.1
      refine W.widen (k := cl + 8) (n := sl + 48) (Nat.le_refl _) (Nat.le_refl _) ?_
      refine lv_istore (lv' := [(6, .int r18.1), (5, .int r12.1), (0, .ref b), (1, .ref x), (2, .ref mm), (3, .ref out), (4, .int i)]) C.1 C.2.1 dL_law_1761 hl (by decide) rfl (fun ls hl => ?_)
      refine lv_aload_n C.1 C.2.1 dL_law_1763 rfl (lv_at hl 4 rfl) ?_
      obtain ⟨r19, hc, h⟩ := bS h
      refine r_V1 C hK hX hb hP ⟨hS, rfl⟩ hl.1 (kX7_thrown hTm hc) hTm cl_7 wd_1182 mo_X7_thrown wd_1183 wd_1184 ⟨Nat.le_of_ble_eq_true rfl, Nat.le_of_ble_eq_true rfl⟩ hRc rfl (rest := []) rfl (Nat.le_of_ble_eq_true rfl) dL_law_1764 (fun H locs hP hS => ?_)
      replace hS := hS.1
      refine W.widen (k := cl + 8) (n := sl + 48) (Nat.le_refl _) (Nat.le_refl _) ?_
      refine lv_iload C.1 C.2.1 dL_law_1767 (lv_at hl 1 rfl) ?_
      refine b_ieq (tgt := 1774) C dL_law_1769 (by decide) h (fun h => ?_) (fun h => ?_)
      · refine lv_iload C.1 C.2.1 dL_law_1774 (lv_at hl 1 rfl) ?_
        refine b_ne (tgt := 1791) C dL_law_1776 (by decide) h (fun h => ?_) (fun h => ?_)
        · refine lv_aload_n C.1 C.2.1 dL_law_1779 rfl (lv_at hl 5 rfl) ?_
          refine lv_iconst (v := 0) C.1 C.2.1 dL_law_1780 (by decide) ?_
          refine r_aL C hK hP dL_law_1781 h (fun y20 h => ?_)
          refine lv_iload C.1 C.2.1 dL_law_1782 (lv_at hl 0 rfl) ?_
          refine lv_i2l C.1 C.2.1 dL_law_1784 rfl ?_
          refine b_lcmp (tgt := 1791) C dL_law_1785 dL_law_1786 (by decide) h (fun h => ?_) (fun h => ?_)
          · refine lv_goto (tgt := 2033) C.1 C.2.1 dL_law_1791 (by decide) ?_
            have e := Option.some.inj h
            exact hk r18.2 _ _ _ e.symm hP hS (lv_sub hl [2, 3, 4, 5, 6] rfl)
          · exact absurd (hno 0 (Option.some.inj h).symm) (by decide)
        · refine lv_goto (tgt := 2033) C.1 C.2.1 dL_law_1791 (by decide) ?_
          have e := Option.some.inj h
          exact hk r18.2 _ _ _ e.symm hP hS (lv_sub hl [2, 3, 4, 5, 6] rfl)
      · exact absurd (hno 0 (Option.some.inj h).symm) (by decide)
noncomputable def fL_c31 (n : Nat) (Sh : Sp) (xs : Nat → Int32) (L x mm out : Nat) (i : Int32) (M : Mm) : Option (Mm ⊕ Int32) :=
  scr xs L (i + 1) fun t1 =>
  (fL_read n Sh M x t1 out).bind fun r2 =>
  scr xs L (i + 1) fun t3 =>
  (fX7_read n Sh r2.2 mm t3).bind fun r4 =>
  (fX7_thrown n Sh r4.2 mm).bind fun r5 =>
  if r5 = r2.1 then
    if r2.1 = 0 then
      aL Sh r4.2 out 0 fun y6 =>
      if (y6 : Int64) = (Int32.toInt64 r4.1) then
        some (Sum.inl r4.2)
      else
        some (Sum.inr 0)
    else
      some (Sum.inl r4.2)
  else
    some (Sum.inr 0)
set_option maxRecDepth 100000 in
set_option maxHeartbeats 4000000 in
theorem kL_c31 (C : CallFix p m c cL_law 7 s args GW RL) (hfl : l.stackTraces = false) (hK : KK G s) (hX : XE G s s.heap) (hN : NC s) (hb : G.1 ≤ s.heap.size) (hXs : va_X b L xs s s.heap) (hbl : b < s.heap.size) (hbA : ¬ AA G b) (hTx : Sh x = some (.inl 6)) (hTm : Sh mm = some (.inl 7)) {z : Mm ⊕ Int32} (h : fL_c31 n Sh xs L x mm out i M = some z) (hRc : cl + 8 ≤ room_1.cells ∧ sl + 48 ≤ room_1.slots) (hP : HM G Sh M H) (hS : va_S (AA G) s.heap H locs) (hl : lv_has ls 7 [(0, .ref b), (1, .ref x), (2, .ref mm), (3, .ref out), (4, .int i)]) (hno : ∀ q : Int32, z = .inr q → q = 1)
    (hk : ∀ (M1 : Mm) (H : Heap) (locs : List Loc) (ls : Array Slot), z = .inl M1 → HM G Sh M1 H → va_S (AA G) s.heap H locs → lv_has ls 7 [(0, .ref b), (1, .ref x), (2, .ref mm), (3, .ref out), (4, .int i)] → W p l e room_1 s m args below meth c H locs (cl + 8) (sl + 48) Q (F0 m 2033 ls [])) :
    W p l e room_1 s m args below meth c H locs cl sl Q (F0 m 1794 ls []) := by
  have hR0 : cl + 0 ≤ room_1.cells ∧ sl + 0 ≤ room_1.slots := ⟨Nat.le_trans (Nat.le_add_right cl 8) hRc.1, Nat.le_trans (Nat.le_add_right sl 48) hRc.2⟩
  unfold fL_c31 at h
  refine lv_aload_n C.1 C.2.1 dL_law_1794 rfl (lv_at hl 1 rfl) ?_
  refine lv_aload_n C.1 C.2.1 dL_law_1795 rfl (lv_at hl 0 rfl) ?_
  refine lv_iload C.1 C.2.1 dL_law_1796 (lv_at hl 4 rfl) ?_
  refine lv_iconst (v := 1) C.1 C.2.1 dL_law_1798 (by decide) ?_
  refine lv_iadd C.1 C.2.1 dL_law_1799 ?_
  refine r_scr C hXs hbl hbA hS dL_law_1800 h (fun t1 h => ?_)
  refine lv_aload_n C.1 C.2.1 dL_law_1801 rfl (lv_at hl 3 rfl) ?_
  obtain ⟨r2, hc, h⟩ := bS h
  refine r_W (n := 3) C hK hX hN hb hP hS hl.1 (kL_read hfl hc) wd_1092 wd_1094 wd_74 ⟨by decide +kernel, by decide +kernel, by decide +kernel⟩ wd_1093 ⟨Nat.le_of_ble_eq_true rfl, Nat.le_of_ble_eq_true rfl⟩ (k1 := cl + 8) (k2 := sl + 48) ⟨Nat.add_le_add_left (Nat.le_of_ble_eq_true rfl) _, Nat.add_le_add_left (Nat.le_of_ble_eq_true rfl) _⟩ hRc rfl (rest := []) rfl (Nat.le_of_ble_eq_true rfl) dL_law_1802 (fun H locs hP hS => ?_)
  refine lv_istore (lv' := [(5, .int r2.1), (0, .ref b), (1, .ref x), (2, .ref mm), (3, .ref out), (4, .int i)]) C.1 C.2.1 dL_law_1805 hl (by decide) rfl (fun ls hl => ?_)
  refine lv_aload_n C.1 C.2.1 dL_law_1807 rfl (lv_at hl 3 rfl) ?_
  refine lv_aload_n C.1 C.2.1 dL_law_1808 rfl (lv_at hl 1 rfl) ?_
  refine lv_iload C.1 C.2.1 dL_law_1809 (lv_at hl 5 rfl) ?_
  refine lv_iconst (v := 1) C.1 C.2.1 dL_law_1811 (by decide) ?_
  refine lv_iadd C.1 C.2.1 dL_law_1812 ?_
  refine r_scr C hXs hbl hbA hS dL_law_1813 h (fun t3 h => ?_)
  obtain ⟨r4, hc, h⟩ := bS h
  refine r_V1 C hK hX hb hP ⟨hS, rfl⟩ hl.1 (kX7_read hTm hc) hTm cl_7 wd_1506 mo_X7_read wd_1507 wd_1508 ⟨Nat.le_of_ble_eq_true rfl, Nat.le_of_ble_eq_true rfl⟩ hRc rfl (rest := []) rfl (Nat.le_of_ble_eq_true rfl) dL_law_1814 (fun H locs hP hS => ?_)
  replace hS := hS.1
  refine W.widen (k := cl + 8) (n := sl + 48) (Nat.le_refl _) (Nat.le_refl _) ?_
  refine lv_istore (lv' := [(6, .int r4.1), (5, .int r2.1), (0, .ref b), (1, .ref x), (2, .ref mm), (3, .ref out), (4, .int i)]) C.1 C.2.1 dL_law_1817 hl (by decide) rfl (fun ls hl => ?_)
  refine lv_aload_n C.1 C.2.1 dL_law_1819 rfl (lv_at hl 4 rfl) ?_
  obtain ⟨r5, hc, h⟩ := bS h
  refine r_V1 C hK hX hb hP ⟨hS, rfl⟩ hl.1 (kX7_thrown hTm hc) hTm cl_7 wd_1182 mo_X7_thrown wd_1183 wd_1184 ⟨Nat.le_of_ble_eq_true rfl, Nat.le_of_ble_eq_true rfl⟩ hRc rfl (rest := []) rfl (Nat.le_of_ble_eq_true rfl) dL_law_1820 (fun H locs hP hS => ?_)
  replace hS := hS.1
  refine W.widen (k := cl + 8) (n := sl + 48) (Nat.le_refl _) (Nat.le_refl _) ?_
  refine lv_iload C.1 C.2.1 dL_law_1823 (lv_at hl 1 rfl) ?_
  refine b_ieq (tgt := 1830) C dL_law_1825 (by decide) h (fun h => ?_) (fun h => ?_)
  · refine lv_iload C.1 C.2.1 dL_law_1830 (lv_at hl 1 rfl) ?_
    refine b_ne (tgt := 1847) C dL_law_1832 (by decide) h (fun h => ?_) (fun h => ?_)
    · refine lv_aload_n C.1 C.2.1 dL_law_1835 rfl (lv_at hl 5 rfl) ?_
      refine lv_iconst (v := 0) C.1 C.2.1 dL_law_1836 (by decide) ?_
      refine r_aL C hK hP dL_law_1837 h (fun y6 h => ?_)
      refine lv_iload C.1 C.2.1 dL_law_1838 (lv_at hl 0 rfl) ?_
      refine lv_i2l C.1 C.2.1 dL_law_1840 rfl ?_
      refine b_lcmp (tgt := 1847) C dL_law_1841 dL_law_1842 (by decide) h (fun h => ?_) (fun h => ?_)
      · refine lv_goto (tgt := 2033) C.1 C.2.1 dL_law_1847 (by decide) ?_
        have e := Option.some.inj h
        exact hk r4.2 _ _ _ e.symm hP hS (lv_sub hl [2, 3, 4, 5, 6] rfl)
      · exact absurd (hno 0 (Option.some.inj h).symm) (by decide)
    · refine lv_goto (tgt := 2033) C.1 C.2.1 dL_law_1847 (by decide) ?_
      have e := Option.some.inj h
      exact hk r4.2 _ _ _ e.symm hP hS (lv_sub hl [2, 3, 4, 5, 6] rfl)
  · exact absurd (hno 0 (Option.some.inj h).symm) (by decide)
noncomputable def fL_c32 (n : Nat) (Sh : Sp) (xs : Nat → Int32) (L x mm out : Nat) (i : Int32) (M : Mm) : Option (Mm ⊕ Int32) :=
  scr xs L (i + 1) fun t1 =>
  (fL_readBeside n Sh M x t1 out).bind fun r2 =>
  scr xs L (i + 1) fun t3 =>
  (fX7_readBeside n Sh r2.2 mm t3).bind fun r4 =>
  (fX7_thrown n Sh r4.2 mm).bind fun r5 =>
  if r5 = r2.1 then
    if r2.1 = 0 then
      aL Sh r4.2 out 0 fun y6 =>
      if (y6 : Int64) = (Int32.toInt64 r4.1) then
        some (Sum.inl r4.2)
      else
        some (Sum.inr 0)
    else
      some (Sum.inl r4.2)
  else
    some (Sum.inr 0)
set_option maxRecDepth 100000 in
set_option maxHeartbeats 4000000 in
theorem kL_c32 (C : CallFix p m c cL_law 7 s args GW RL) (hfl : l.stackTraces = false) (hK : KK G s) (hX : XE G s s.heap) (hN : NC s) (hb : G.1 ≤ s.heap.size) (hXs : va_X b L xs s s.heap) (hbl : b < s.heap.size) (hbA : ¬ AA G b) (hTx : Sh x = some (.inl 6)) (hTm : Sh mm = some (.inl 7)) {z : Mm ⊕ Int32} (h : fL_c32 n Sh xs L x mm out i M = some z) (hRc : cl + 8 ≤ room_1.cells ∧ sl + 48 ≤ room_1.slots) (hP : HM G Sh M H) (hS : va_S (AA G) s.heap H locs) (hl : lv_has ls 7 [(0, .ref b), (1, .ref x), (2, .ref mm), (3, .ref out), (4, .int i)]) (hno : ∀ q : Int32, z = .inr q → q = 1)
    (hk : ∀ (M1 : Mm) (H : Heap) (locs : List Loc) (ls : Array Slot), z = .inl M1 → HM G Sh M1 H → va_S (AA G) s.heap H locs → lv_has ls 7 [(0, .ref b), (1, .ref x), (2, .ref mm), (3, .ref out), (4, .int i)] → W p l e room_1 s m args below meth c H locs (cl + 8) (sl + 48) Q (F0 m 2033 ls [])) :
    W p l e room_1 s m args below meth c H locs cl sl Q (F0 m 1850 ls []) := by
  have hR0 : cl + 0 ≤ room_1.cells ∧ sl + 0 ≤ room_1.slots := ⟨Nat.le_trans (Nat.le_add_right cl 8) hRc.1, Nat.le_trans (Nat.le_add_right sl 48) hRc.2⟩
  unfold fL_c32 at h
  refine lv_aload_n C.1 C.2.1 dL_law_1850 rfl (lv_at hl 1 rfl) ?_
  refine lv_aload_n C.1 C.2.1 dL_law_1851 rfl (lv_at hl 0 rfl) ?_
  refine lv_iload C.1 C.2.1 dL_law_1852 (lv_at hl 4 rfl) ?_
  refine lv_iconst (v := 1) C.1 C.2.1 dL_law_1854 (by decide) ?_
  refine lv_iadd C.1 C.2.1 dL_law_1855 ?_
  refine r_scr C hXs hbl hbA hS dL_law_1856 h (fun t1 h => ?_)
  refine lv_aload_n C.1 C.2.1 dL_law_1857 rfl (lv_at hl 3 rfl) ?_
  obtain ⟨r2, hc, h⟩ := bS h
  refine r_W (n := 3) C hK hX hN hb hP hS hl.1 (kL_readBeside hfl hc) wd_1108 wd_1110 wd_74 ⟨by decide +kernel, by decide +kernel, by decide +kernel⟩ wd_1109 ⟨Nat.le_of_ble_eq_true rfl, Nat.le_of_ble_eq_true rfl⟩ (k1 := cl + 8) (k2 := sl + 48) ⟨Nat.add_le_add_left (Nat.le_of_ble_eq_true rfl) _, Nat.add_le_add_left (Nat.le_of_ble_eq_true rfl) _⟩ hRc rfl (rest := []) rfl (Nat.le_of_ble_eq_true rfl) dL_law_1858 (fun H locs hP hS => ?_)
  refine lv_istore (lv' := [(5, .int r2.1), (0, .ref b), (1, .ref x), (2, .ref mm), (3, .ref out), (4, .int i)]) C.1 C.2.1 dL_law_1861 hl (by decide) rfl (fun ls hl => ?_)
  refine lv_aload_n C.1 C.2.1 dL_law_1863 rfl (lv_at hl 3 rfl) ?_
  refine lv_aload_n C.1 C.2.1 dL_law_1864 rfl (lv_at hl 1 rfl) ?_
  refine lv_iload C.1 C.2.1 dL_law_1865 (lv_at hl 5 rfl) ?_
  refine lv_iconst (v := 1) C.1 C.2.1 dL_law_1867 (by decide) ?_
  refine lv_iadd C.1 C.2.1 dL_law_1868 ?_
  refine r_scr C hXs hbl hbA hS dL_law_1869 h (fun t3 h => ?_)
  obtain ⟨r4, hc, h⟩ := bS h
  refine r_V1 C hK hX hb hP ⟨hS, rfl⟩ hl.1 (kX7_readBeside hTm hc) hTm cl_7 wd_1518 mo_X7_readBeside wd_1519 wd_1520 ⟨Nat.le_of_ble_eq_true rfl, Nat.le_of_ble_eq_true rfl⟩ hRc rfl (rest := []) rfl (Nat.le_of_ble_eq_true rfl) dL_law_1870 (fun H locs hP hS => ?_)
  replace hS := hS.1
  refine W.widen (k := cl + 8) (n := sl + 48) (Nat.le_refl _) (Nat.le_refl _) ?_
  refine lv_istore (lv' := [(6, .int r4.1), (5, .int r2.1), (0, .ref b), (1, .ref x), (2, .ref mm), (3, .ref out), (4, .int i)]) C.1 C.2.1 dL_law_1873 hl (by decide) rfl (fun ls hl => ?_)
  refine lv_aload_n C.1 C.2.1 dL_law_1875 rfl (lv_at hl 4 rfl) ?_
  obtain ⟨r5, hc, h⟩ := bS h
  refine r_V1 C hK hX hb hP ⟨hS, rfl⟩ hl.1 (kX7_thrown hTm hc) hTm cl_7 wd_1182 mo_X7_thrown wd_1183 wd_1184 ⟨Nat.le_of_ble_eq_true rfl, Nat.le_of_ble_eq_true rfl⟩ hRc rfl (rest := []) rfl (Nat.le_of_ble_eq_true rfl) dL_law_1876 (fun H locs hP hS => ?_)
  replace hS := hS.1
  refine W.widen (k := cl + 8) (n := sl + 48) (Nat.le_refl _) (Nat.le_refl _) ?_
  refine lv_iload C.1 C.2.1 dL_law_1879 (lv_at hl 1 rfl) ?_
  refine b_ieq (tgt := 1886) C dL_law_1881 (by decide) h (fun h => ?_) (fun h => ?_)
  · refine lv_iload C.1 C.2.1 dL_law_1886 (lv_at hl 1 rfl) ?_
    refine b_ne (tgt := 1903) C dL_law_1888 (by decide) h (fun h => ?_) (fun h => ?_)
    · refine lv_aload_n C.1 C.2.1 dL_law_1891 rfl (lv_at hl 5 rfl) ?_
      refine lv_iconst (v := 0) C.1 C.2.1 dL_law_1892 (by decide) ?_
      refine r_aL C hK hP dL_law_1893 h (fun y6 h => ?_)
      refine lv_iload C.1 C.2.1 dL_law_1894 (lv_at hl 0 rfl) ?_
      refine lv_i2l C.1 C.2.1 dL_law_1896 rfl ?_
      refine b_lcmp (tgt := 1903) C dL_law_1897 dL_law_1898 (by decide) h (fun h => ?_) (fun h => ?_)
      · refine lv_goto (tgt := 2033) C.1 C.2.1 dL_law_1903 (by decide) ?_
        have e := Option.some.inj h
        exact hk r4.2 _ _ _ e.symm hP hS (lv_sub hl [2, 3, 4, 5, 6] rfl)
      · exact absurd (hno 0 (Option.some.inj h).symm) (by decide)
    · refine lv_goto (tgt := 2033) C.1 C.2.1 dL_law_1903 (by decide) ?_
      have e := Option.some.inj h
      exact hk r4.2 _ _ _ e.symm hP hS (lv_sub hl [2, 3, 4, 5, 6] rfl)
  · exact absurd (hno 0 (Option.some.inj h).symm) (by decide)
noncomputable def fL_c33 (n : Nat) (Sh : Sp) (xs : Nat → Int32) (L x mm out : Nat) (i : Int32) (M : Mm) : Option (Mm ⊕ Int32) :=
  scr xs L (i + 1) fun t1 =>
  (fL_type n Sh M x t1 out).bind fun r2 =>
  scr xs L (i + 1) fun t3 =>
  (fX7_type n Sh r2.2 mm t3).bind fun r4 =>
  (fX7_thrown n Sh r4.2 mm).bind fun r5 =>
  if r5 = r2.1 then
    if r2.1 = 0 then
      aL Sh r4.2 out 0 fun y6 =>
      if (y6 : Int64) = (Int32.toInt64 r4.1) then
        some (Sum.inl r4.2)
      else
        some (Sum.inr 0)
    else
      some (Sum.inl r4.2)
  else
    some (Sum.inr 0)
set_option maxRecDepth 100000 in
set_option maxHeartbeats 4000000 in
theorem kL_c33 (C : CallFix p m c cL_law 7 s args GW RL) (hfl : l.stackTraces = false) (hK : KK G s) (hX : XE G s s.heap) (hN : NC s) (hb : G.1 ≤ s.heap.size) (hXs : va_X b L xs s s.heap) (hbl : b < s.heap.size) (hbA : ¬ AA G b) (hTx : Sh x = some (.inl 6)) (hTm : Sh mm = some (.inl 7)) {z : Mm ⊕ Int32} (h : fL_c33 n Sh xs L x mm out i M = some z) (hRc : cl + 8 ≤ room_1.cells ∧ sl + 48 ≤ room_1.slots) (hP : HM G Sh M H) (hS : va_S (AA G) s.heap H locs) (hl : lv_has ls 7 [(0, .ref b), (1, .ref x), (2, .ref mm), (3, .ref out), (4, .int i)]) (hno : ∀ q : Int32, z = .inr q → q = 1)
    (hk : ∀ (M1 : Mm) (H : Heap) (locs : List Loc) (ls : Array Slot), z = .inl M1 → HM G Sh M1 H → va_S (AA G) s.heap H locs → lv_has ls 7 [(0, .ref b), (1, .ref x), (2, .ref mm), (3, .ref out), (4, .int i)] → W p l e room_1 s m args below meth c H locs (cl + 8) (sl + 48) Q (F0 m 2033 ls [])) :
    W p l e room_1 s m args below meth c H locs cl sl Q (F0 m 1906 ls []) := by
  have hR0 : cl + 0 ≤ room_1.cells ∧ sl + 0 ≤ room_1.slots := ⟨Nat.le_trans (Nat.le_add_right cl 8) hRc.1, Nat.le_trans (Nat.le_add_right sl 48) hRc.2⟩
  unfold fL_c33 at h
  refine lv_aload_n C.1 C.2.1 dL_law_1906 rfl (lv_at hl 1 rfl) ?_
  refine lv_aload_n C.1 C.2.1 dL_law_1907 rfl (lv_at hl 0 rfl) ?_
  refine lv_iload C.1 C.2.1 dL_law_1908 (lv_at hl 4 rfl) ?_
  refine lv_iconst (v := 1) C.1 C.2.1 dL_law_1910 (by decide) ?_
  refine lv_iadd C.1 C.2.1 dL_law_1911 ?_
  refine r_scr C hXs hbl hbA hS dL_law_1912 h (fun t1 h => ?_)
  refine lv_aload_n C.1 C.2.1 dL_law_1913 rfl (lv_at hl 3 rfl) ?_
  obtain ⟨r2, hc, h⟩ := bS h
  refine r_W (n := 3) C hK hX hN hb hP hS hl.1 (kL_type hfl hc) wd_1120 wd_1122 wd_74 ⟨by decide +kernel, by decide +kernel, by decide +kernel⟩ wd_1121 ⟨Nat.le_of_ble_eq_true rfl, Nat.le_of_ble_eq_true rfl⟩ (k1 := cl + 8) (k2 := sl + 48) ⟨Nat.add_le_add_left (Nat.le_of_ble_eq_true rfl) _, Nat.add_le_add_left (Nat.le_of_ble_eq_true rfl) _⟩ hRc rfl (rest := []) rfl (Nat.le_of_ble_eq_true rfl) dL_law_1914 (fun H locs hP hS => ?_)
  refine lv_istore (lv' := [(5, .int r2.1), (0, .ref b), (1, .ref x), (2, .ref mm), (3, .ref out), (4, .int i)]) C.1 C.2.1 dL_law_1917 hl (by decide) rfl (fun ls hl => ?_)
  refine lv_aload_n C.1 C.2.1 dL_law_1919 rfl (lv_at hl 3 rfl) ?_
  refine lv_aload_n C.1 C.2.1 dL_law_1920 rfl (lv_at hl 1 rfl) ?_
  refine lv_iload C.1 C.2.1 dL_law_1921 (lv_at hl 5 rfl) ?_
  refine lv_iconst (v := 1) C.1 C.2.1 dL_law_1923 (by decide) ?_
  refine lv_iadd C.1 C.2.1 dL_law_1924 ?_
  refine r_scr C hXs hbl hbA hS dL_law_1925 h (fun t3 h => ?_)
  obtain ⟨r4, hc, h⟩ := bS h
  refine r_V1 C hK hX hb hP ⟨hS, rfl⟩ hl.1 (kX7_type hTm hc) hTm cl_7 wd_1526 mo_X7_type wd_1527 wd_1528 ⟨Nat.le_of_ble_eq_true rfl, Nat.le_of_ble_eq_true rfl⟩ hRc rfl (rest := []) rfl (Nat.le_of_ble_eq_true rfl) dL_law_1926 (fun H locs hP hS => ?_)
  replace hS := hS.1
  refine W.widen (k := cl + 8) (n := sl + 48) (Nat.le_refl _) (Nat.le_refl _) ?_
  refine lv_istore (lv' := [(6, .int r4.1), (5, .int r2.1), (0, .ref b), (1, .ref x), (2, .ref mm), (3, .ref out), (4, .int i)]) C.1 C.2.1 dL_law_1929 hl (by decide) rfl (fun ls hl => ?_)
  refine lv_aload_n C.1 C.2.1 dL_law_1931 rfl (lv_at hl 4 rfl) ?_
  obtain ⟨r5, hc, h⟩ := bS h
  refine r_V1 C hK hX hb hP ⟨hS, rfl⟩ hl.1 (kX7_thrown hTm hc) hTm cl_7 wd_1182 mo_X7_thrown wd_1183 wd_1184 ⟨Nat.le_of_ble_eq_true rfl, Nat.le_of_ble_eq_true rfl⟩ hRc rfl (rest := []) rfl (Nat.le_of_ble_eq_true rfl) dL_law_1932 (fun H locs hP hS => ?_)
  replace hS := hS.1
  refine W.widen (k := cl + 8) (n := sl + 48) (Nat.le_refl _) (Nat.le_refl _) ?_
  refine lv_iload C.1 C.2.1 dL_law_1935 (lv_at hl 1 rfl) ?_
  refine b_ieq (tgt := 1942) C dL_law_1937 (by decide) h (fun h => ?_) (fun h => ?_)
  · refine lv_iload C.1 C.2.1 dL_law_1942 (lv_at hl 1 rfl) ?_
    refine b_ne (tgt := 1959) C dL_law_1944 (by decide) h (fun h => ?_) (fun h => ?_)
    · refine lv_aload_n C.1 C.2.1 dL_law_1947 rfl (lv_at hl 5 rfl) ?_
      refine lv_iconst (v := 0) C.1 C.2.1 dL_law_1948 (by decide) ?_
      refine r_aL C hK hP dL_law_1949 h (fun y6 h => ?_)
      refine lv_iload C.1 C.2.1 dL_law_1950 (lv_at hl 0 rfl) ?_
      refine lv_i2l C.1 C.2.1 dL_law_1952 rfl ?_
      refine b_lcmp (tgt := 1959) C dL_law_1953 dL_law_1954 (by decide) h (fun h => ?_) (fun h => ?_)
      · refine lv_goto (tgt := 2033) C.1 C.2.1 dL_law_1959 (by decide) ?_
        have e := Option.some.inj h
        exact hk r4.2 _ _ _ e.symm hP hS (lv_sub hl [2, 3, 4, 5, 6] rfl)
      · exact absurd (hno 0 (Option.some.inj h).symm) (by decide)
    · refine lv_goto (tgt := 2033) C.1 C.2.1 dL_law_1959 (by decide) ?_
      have e := Option.some.inj h
      exact hk r4.2 _ _ _ e.symm hP hS (lv_sub hl [2, 3, 4, 5, 6] rfl)
  · exact absurd (hno 0 (Option.some.inj h).symm) (by decide)
noncomputable def fL_c34 (n : Nat) (Sh : Sp) (xs : Nat → Int32) (L x mm out : Nat) (i : Int32) (M : Mm) : Option (Mm ⊕ Int32) :=
  (fX6_clearText n Sh M x).bind fun r1 =>
  (fX7_clearText n Sh r1.2 mm).bind fun r2 =>
  if r1.1 = r2.1 then
    some (Sum.inl r2.2)
  else
    some (Sum.inr 0)
set_option maxRecDepth 100000 in
set_option maxHeartbeats 4000000 in
theorem kL_c34 (C : CallFix p m c cL_law 7 s args GW RL) (hfl : l.stackTraces = false) (hK : KK G s) (hX : XE G s s.heap) (hN : NC s) (hb : G.1 ≤ s.heap.size) (hXs : va_X b L xs s s.heap) (hbl : b < s.heap.size) (hbA : ¬ AA G b) (hTx : Sh x = some (.inl 6)) (hTm : Sh mm = some (.inl 7)) {z : Mm ⊕ Int32} (h : fL_c34 n Sh xs L x mm out i M = some z) (hRc : cl + 8 ≤ room_1.cells ∧ sl + 48 ≤ room_1.slots) (hP : HM G Sh M H) (hS : va_S (AA G) s.heap H locs) (hl : lv_has ls 7 [(0, .ref b), (1, .ref x), (2, .ref mm), (3, .ref out), (4, .int i)]) (hno : ∀ q : Int32, z = .inr q → q = 1)
    (hk : ∀ (M1 : Mm) (H : Heap) (locs : List Loc) (ls : Array Slot), z = .inl M1 → HM G Sh M1 H → va_S (AA G) s.heap H locs → lv_has ls 7 [(0, .ref b), (1, .ref x), (2, .ref mm), (3, .ref out), (4, .int i)] → W p l e room_1 s m args below meth c H locs (cl + 8) (sl + 48) Q (F0 m 2033 ls [])) :
    W p l e room_1 s m args below meth c H locs cl sl Q (F0 m 1962 ls []) := by
  have hR0 : cl + 0 ≤ room_1.cells ∧ sl + 0 ≤ room_1.slots := ⟨Nat.le_trans (Nat.le_add_right cl 8) hRc.1, Nat.le_trans (Nat.le_add_right sl 48) hRc.2⟩
  unfold fL_c34 at h
  refine lv_aload_n C.1 C.2.1 dL_law_1962 rfl (lv_at hl 1 rfl) ?_
  obtain ⟨r1, hc, h⟩ := bS h
  refine r_V1 C hK hX hb hP ⟨hS, rfl⟩ hl.1 (kX6_clearText hTx hc) hTx cl_6 wd_613 mo_X6_clearText wd_614 wd_615 ⟨Nat.le_of_ble_eq_true rfl, Nat.le_of_ble_eq_true rfl⟩ hR0 rfl (rest := []) rfl (Nat.le_of_ble_eq_true rfl) dL_law_1963 (fun H locs hP hS => ?_)
  replace hS := hS.1
  refine W.widen (k := cl) (n := sl) (Nat.le_refl _) (Nat.le_refl _) ?_
  refine lv_aload_n C.1 C.2.1 dL_law_1966 rfl (lv_at hl 2 rfl) ?_
  obtain ⟨r2, hc, h⟩ := bS h
  refine r_V1 C hK hX hb hP ⟨hS, rfl⟩ hl.1 (kX7_clearText hTm hc) hTm cl_7 wd_1530 mo_X7_clearText wd_1531 wd_1532 ⟨Nat.le_of_ble_eq_true rfl, Nat.le_of_ble_eq_true rfl⟩ hR0 rfl (rest := [.int r1.1]) rfl (Nat.le_of_ble_eq_true rfl) dL_law_1967 (fun H locs hP hS => ?_)
  replace hS := hS.1
  refine W.widen (k := cl) (n := sl) (Nat.le_refl _) (Nat.le_refl _) ?_
  refine b_ieq (tgt := 2033) C dL_law_1970 (by decide) h (fun h => ?_) (fun h => ?_)
  · have e := Option.some.inj h
    refine W.widen (k := cl + 8) (n := sl + 48) (Nat.le_add_right _ _) (Nat.le_add_right _ _) ?_
    exact hk r2.2 _ _ _ e.symm hP hS (lv_sub hl [0, 1, 2, 3, 4] rfl)
  · exact absurd (hno 0 (Option.some.inj h).symm) (by decide)
noncomputable def fL_c35 (n : Nat) (Sh : Sp) (xs : Nat → Int32) (L x mm out : Nat) (i : Int32) (M : Mm) : Option (Mm ⊕ Int32) :=
  (fL_undo n Sh M x out).bind fun r1 =>
  (fX7_undo n Sh r1.2 mm).bind fun r2 =>
  (fX7_thrown n Sh r2.2 mm).bind fun r3 =>
  if r3 = r1.1 then
    if r1.1 = 0 then
      aL Sh r2.2 out 0 fun y4 =>
      if (y4 : Int64) = (Int32.toInt64 r2.1) then
        some (Sum.inl r2.2)
      else
        some (Sum.inr 0)
    else
      some (Sum.inl r2.2)
  else
    some (Sum.inr 0)
set_option maxRecDepth 100000 in
set_option maxHeartbeats 4000000 in
theorem kL_c35 (C : CallFix p m c cL_law 7 s args GW RL) (hfl : l.stackTraces = false) (hK : KK G s) (hX : XE G s s.heap) (hN : NC s) (hb : G.1 ≤ s.heap.size) (hXs : va_X b L xs s s.heap) (hbl : b < s.heap.size) (hbA : ¬ AA G b) (hTx : Sh x = some (.inl 6)) (hTm : Sh mm = some (.inl 7)) {z : Mm ⊕ Int32} (h : fL_c35 n Sh xs L x mm out i M = some z) (hRc : cl + 8 ≤ room_1.cells ∧ sl + 48 ≤ room_1.slots) (hP : HM G Sh M H) (hS : va_S (AA G) s.heap H locs) (hl : lv_has ls 7 [(0, .ref b), (1, .ref x), (2, .ref mm), (3, .ref out), (4, .int i)]) (hno : ∀ q : Int32, z = .inr q → q = 1)
    (hk : ∀ (M1 : Mm) (H : Heap) (locs : List Loc) (ls : Array Slot), z = .inl M1 → HM G Sh M1 H → va_S (AA G) s.heap H locs → lv_has ls 7 [(0, .ref b), (1, .ref x), (2, .ref mm), (3, .ref out), (4, .int i)] → W p l e room_1 s m args below meth c H locs (cl + 8) (sl + 48) Q (F0 m 2033 ls [])) :
    W p l e room_1 s m args below meth c H locs cl sl Q (F0 m 1975 ls []) := by
  have hR0 : cl + 0 ≤ room_1.cells ∧ sl + 0 ≤ room_1.slots := ⟨Nat.le_trans (Nat.le_add_right cl 8) hRc.1, Nat.le_trans (Nat.le_add_right sl 48) hRc.2⟩
  unfold fL_c35 at h
  refine lv_aload_n C.1 C.2.1 dL_law_1975 rfl (lv_at hl 1 rfl) ?_
  refine lv_aload_n C.1 C.2.1 dL_law_1976 rfl (lv_at hl 3 rfl) ?_
  obtain ⟨r1, hc, h⟩ := bS h
  refine r_W (n := 2) C hK hX hN hb hP hS hl.1 (kL_undo hfl hc) wd_1130 wd_1132 wd_74 ⟨by decide +kernel, by decide +kernel, by decide +kernel⟩ wd_1131 ⟨Nat.le_of_ble_eq_true rfl, Nat.le_of_ble_eq_true rfl⟩ (k1 := cl + 8) (k2 := sl + 48) ⟨Nat.add_le_add_left (Nat.le_of_ble_eq_true rfl) _, Nat.add_le_add_left (Nat.le_of_ble_eq_true rfl) _⟩ hRc rfl (rest := []) rfl (Nat.le_of_ble_eq_true rfl) dL_law_1977 (fun H locs hP hS => ?_)
  refine lv_istore (lv' := [(5, .int r1.1), (0, .ref b), (1, .ref x), (2, .ref mm), (3, .ref out), (4, .int i)]) C.1 C.2.1 dL_law_1980 hl (by decide) rfl (fun ls hl => ?_)
  refine lv_aload_n C.1 C.2.1 dL_law_1982 rfl (lv_at hl 3 rfl) ?_
  obtain ⟨r2, hc, h⟩ := bS h
  refine r_V1 C hK hX hb hP ⟨hS, rfl⟩ hl.1 (kX7_undo hTm hc) hTm cl_7 wd_1534 mo_X7_undo wd_1535 wd_1536 ⟨Nat.le_of_ble_eq_true rfl, Nat.le_of_ble_eq_true rfl⟩ hRc rfl (rest := []) rfl (Nat.le_of_ble_eq_true rfl) dL_law_1983 (fun H locs hP hS => ?_)
  replace hS := hS.1
  refine W.widen (k := cl + 8) (n := sl + 48) (Nat.le_refl _) (Nat.le_refl _) ?_
  refine lv_istore (lv' := [(6, .int r2.1), (5, .int r1.1), (0, .ref b), (1, .ref x), (2, .ref mm), (3, .ref out), (4, .int i)]) C.1 C.2.1 dL_law_1986 hl (by decide) rfl (fun ls hl => ?_)
  refine lv_aload_n C.1 C.2.1 dL_law_1988 rfl (lv_at hl 4 rfl) ?_
  obtain ⟨r3, hc, h⟩ := bS h
  refine r_V1 C hK hX hb hP ⟨hS, rfl⟩ hl.1 (kX7_thrown hTm hc) hTm cl_7 wd_1182 mo_X7_thrown wd_1183 wd_1184 ⟨Nat.le_of_ble_eq_true rfl, Nat.le_of_ble_eq_true rfl⟩ hRc rfl (rest := []) rfl (Nat.le_of_ble_eq_true rfl) dL_law_1989 (fun H locs hP hS => ?_)
  replace hS := hS.1
  refine W.widen (k := cl + 8) (n := sl + 48) (Nat.le_refl _) (Nat.le_refl _) ?_
  refine lv_iload C.1 C.2.1 dL_law_1992 (lv_at hl 1 rfl) ?_
  refine b_ieq (tgt := 1999) C dL_law_1994 (by decide) h (fun h => ?_) (fun h => ?_)
  · refine lv_iload C.1 C.2.1 dL_law_1999 (lv_at hl 1 rfl) ?_
    refine b_ne (tgt := 2016) C dL_law_2001 (by decide) h (fun h => ?_) (fun h => ?_)
    · refine lv_aload_n C.1 C.2.1 dL_law_2004 rfl (lv_at hl 5 rfl) ?_
      refine lv_iconst (v := 0) C.1 C.2.1 dL_law_2005 (by decide) ?_
      refine r_aL C hK hP dL_law_2006 h (fun y4 h => ?_)
      refine lv_iload C.1 C.2.1 dL_law_2007 (lv_at hl 0 rfl) ?_
      refine lv_i2l C.1 C.2.1 dL_law_2009 rfl ?_
      refine b_lcmp (tgt := 2016) C dL_law_2010 dL_law_2011 (by decide) h (fun h => ?_) (fun h => ?_)
      · refine lv_goto (tgt := 2033) C.1 C.2.1 dL_law_2016 (by decide) ?_
        have e := Option.some.inj h
        exact hk r2.2 _ _ _ e.symm hP hS (lv_sub hl [2, 3, 4, 5, 6] rfl)
      · exact absurd (hno 0 (Option.some.inj h).symm) (by decide)
    · refine lv_goto (tgt := 2033) C.1 C.2.1 dL_law_2016 (by decide) ?_
      have e := Option.some.inj h
      exact hk r2.2 _ _ _ e.symm hP hS (lv_sub hl [2, 3, 4, 5, 6] rfl)
  · exact absurd (hno 0 (Option.some.inj h).symm) (by decide)
noncomputable def fL_c36 (n : Nat) (Sh : Sp) (xs : Nat → Int32) (L x mm out : Nat) (i : Int32) (M : Mm) : Option (Mm ⊕ Int32) :=
  (fX6_checksum n Sh M x).bind fun r1 =>
  (fX7_checksum n Sh r1.2 mm).bind fun r2 =>
  if (r1.1 : Int64) = r2.1 then
    some (Sum.inl r2.2)
  else
    some (Sum.inr 0)
set_option maxRecDepth 100000 in
set_option maxHeartbeats 4000000 in
theorem kL_c36 (C : CallFix p m c cL_law 7 s args GW RL) (hfl : l.stackTraces = false) (hK : KK G s) (hX : XE G s s.heap) (hN : NC s) (hb : G.1 ≤ s.heap.size) (hXs : va_X b L xs s s.heap) (hbl : b < s.heap.size) (hbA : ¬ AA G b) (hTx : Sh x = some (.inl 6)) (hTm : Sh mm = some (.inl 7)) {z : Mm ⊕ Int32} (h : fL_c36 n Sh xs L x mm out i M = some z) (hRc : cl + 8 ≤ room_1.cells ∧ sl + 48 ≤ room_1.slots) (hP : HM G Sh M H) (hS : va_S (AA G) s.heap H locs) (hl : lv_has ls 7 [(0, .ref b), (1, .ref x), (2, .ref mm), (3, .ref out), (4, .int i)]) (hno : ∀ q : Int32, z = .inr q → q = 1)
    (hk : ∀ (M1 : Mm) (H : Heap) (locs : List Loc) (ls : Array Slot), z = .inl M1 → HM G Sh M1 H → va_S (AA G) s.heap H locs → lv_has ls 7 [(0, .ref b), (1, .ref x), (2, .ref mm), (3, .ref out), (4, .int i)] → W p l e room_1 s m args below meth c H locs (cl + 8) (sl + 48) Q (F0 m 2033 ls [])) :
    W p l e room_1 s m args below meth c H locs cl sl Q (F0 m 2019 ls []) := by
  have hR0 : cl + 0 ≤ room_1.cells ∧ sl + 0 ≤ room_1.slots := ⟨Nat.le_trans (Nat.le_add_right cl 8) hRc.1, Nat.le_trans (Nat.le_add_right sl 48) hRc.2⟩
  unfold fL_c36 at h
  refine lv_aload_n C.1 C.2.1 dL_law_2019 rfl (lv_at hl 1 rfl) ?_
  obtain ⟨r1, hc, h⟩ := bS h
  refine r_V1 C hK hX hb hP ⟨hS, rfl⟩ hl.1 (kX6_checksum hTx hc) hTx cl_6 wd_618 mo_X6_checksum wd_619 wd_620 ⟨Nat.le_of_ble_eq_true rfl, Nat.le_of_ble_eq_true rfl⟩ hR0 rfl (rest := []) rfl (Nat.le_of_ble_eq_true rfl) dL_law_2020 (fun H locs hP hS => ?_)
  replace hS := hS.1
  refine W.widen (k := cl) (n := sl) (Nat.le_refl _) (Nat.le_refl _) ?_
  refine lv_aload_n C.1 C.2.1 dL_law_2023 rfl (lv_at hl 2 rfl) ?_
  obtain ⟨r2, hc, h⟩ := bS h
  refine r_V1 C hK hX hb hP ⟨hS, rfl⟩ hl.1 (kX7_checksum hTm hc) hTm cl_7 wd_1538 mo_X7_checksum wd_1539 wd_1540 ⟨Nat.le_of_ble_eq_true rfl, Nat.le_of_ble_eq_true rfl⟩ hR0 rfl (rest := [.long r1.1]) rfl (Nat.le_of_ble_eq_true rfl) dL_law_2024 (fun H locs hP hS => ?_)
  replace hS := hS.1
  refine W.widen (k := cl) (n := sl) (Nat.le_refl _) (Nat.le_refl _) ?_
  refine b_lcmp (tgt := 2033) C dL_law_2027 dL_law_2028 (by decide) h (fun h => ?_) (fun h => ?_)
  · have e := Option.some.inj h
    refine W.widen (k := cl + 8) (n := sl + 48) (Nat.le_add_right _ _) (Nat.le_add_right _ _) ?_
    exact hk r2.2 _ _ _ e.symm hP hS (lv_sub hl [0, 1, 2, 3, 4] rfl)
  · exact absurd (hno 0 (Option.some.inj h).symm) (by decide)
noncomputable def fL_body (n : Nat) (Sh : Sp) (xs : Nat → Int32) (L x mm out : Nat) (i : Int32) (M : Mm) : Option ((Int32 × Mm) ⊕ Int32) :=
  if i ≤ (Int32.ofNat L - 4) then
    scr xs L i fun t =>
    if t &&& 63 = 0 then cont i (fL_c0 n Sh xs L x mm out i M)
    else if t &&& 63 = 1 then cont i (fL_c1 n Sh xs L x mm out i M)
    else if t &&& 63 = 2 then cont i (fL_c2 n Sh xs L x mm out i M)
    else if t &&& 63 = 3 then cont i (fL_c3 n Sh xs L x mm out i M)
    else if t &&& 63 = 4 then cont i (fL_c4 n Sh xs L x mm out i M)
    else if t &&& 63 = 5 then cont i (fL_c5 n Sh xs L x mm out i M)
    else if t &&& 63 = 6 then cont i (fL_c6 n Sh xs L x mm out i M)
    else if t &&& 63 = 7 then cont i (fL_c7 n Sh xs L x mm out i M)
    else if t &&& 63 = 8 then cont i (fL_c8 n Sh xs L x mm out i M)
    else if t &&& 63 = 9 then cont i (fL_c9 n Sh xs L x mm out i M)
    else if t &&& 63 = 10 then cont i (fL_c10 n Sh xs L x mm out i M)
    else if t &&& 63 = 11 then cont i (fL_c11 n Sh xs L x mm out i M)
    else if t &&& 63 = 12 then cont i (fL_c12 n Sh xs L x mm out i M)
    else if t &&& 63 = 13 then cont i (fL_c13 n Sh xs L x mm out i M)
    else if t &&& 63 = 14 then cont i (fL_c14 n Sh xs L x mm out i M)
    else if t &&& 63 = 15 then cont i (fL_c15 n Sh xs L x mm out i M)
    else if t &&& 63 = 16 then cont i (fL_c16 n Sh xs L x mm out i M)
    else if t &&& 63 = 17 then cont i (fL_c17 n Sh xs L x mm out i M)
    else if t &&& 63 = 18 then cont i (fL_c18 n Sh xs L x mm out i M)
    else if t &&& 63 = 19 then cont i (fL_c19 n Sh xs L x mm out i M)
    else if t &&& 63 = 20 then cont i (fL_c20 n Sh xs L x mm out i M)
    else if t &&& 63 = 21 then cont i (fL_c21 n Sh xs L x mm out i M)
    else if t &&& 63 = 22 then cont i (fL_c22 n Sh xs L x mm out i M)
    else if t &&& 63 = 23 then cont i (fL_c23 n Sh xs L x mm out i M)
    else if t &&& 63 = 24 then cont i (fL_c24 n Sh xs L x mm out i M)
    else if t &&& 63 = 25 then cont i (fL_c25 n Sh xs L x mm out i M)
    else if t &&& 63 = 26 then cont i (fL_c26 n Sh xs L x mm out i M)
    else if t &&& 63 = 27 then cont i (fL_c27 n Sh xs L x mm out i M)
    else if t &&& 63 = 28 then cont i (fL_c28 n Sh xs L x mm out i M)
    else if t &&& 63 = 29 then cont i (fL_c29 n Sh xs L x mm out i M)
    else if t &&& 63 = 30 then cont i (fL_c30 n Sh xs L x mm out i M)
    else if t &&& 63 = 31 then cont i (fL_c31 n Sh xs L x mm out i M)
    else if t &&& 63 = 32 then cont i (fL_c32 n Sh xs L x mm out i M)
    else if t &&& 63 = 33 then cont i (fL_c33 n Sh xs L x mm out i M)
    else if t &&& 63 = 34 then cont i (fL_c34 n Sh xs L x mm out i M)
    else if t &&& 63 = 35 then cont i (fL_c35 n Sh xs L x mm out i M)
    else if t &&& 63 = 36 then cont i (fL_c36 n Sh xs L x mm out i M)
    else cont i (some (Sum.inl M))
  else some (Sum.inr 1)
noncomputable def fL_loop (n : Nat) (Sh : Sp) (xs : Nat → Int32) (L x mm out : Nat) (i : Int32) (M : Mm) : Option Int32 :=
  iter 513 (fun s => fL_body n Sh xs L x mm out s.1 s.2) (i, M)
set_option maxRecDepth 100000 in
set_option maxHeartbeats 8000000 in
theorem kL_loop (C : CallFix p m c cL_law 7 s args GW RL) (hfl : l.stackTraces = false) (hK : KK G s) (hX : XE G s s.heap) (hN : NC s) (hb : G.1 ≤ s.heap.size) (hXs : va_X b L xs s s.heap) (hbl : b < s.heap.size) (hbA : ¬ AA G b) (hTx : Sh x = some (.inl 6)) (hTm : Sh mm = some (.inl 7)) (hq : ∀ (H : Heap) (locs : List Loc) (ls : Array Slot) (k1 k2 : Nat), va_S (AA G) s.heap H locs → k1 ≤ 10000 → k2 ≤ 200000 → W p l e room_1 s m args below meth c H locs k1 k2 Q (F0 m 2040 ls [.int 1])) :
    ∀ (k : Nat) (i : Int32) (M : Mm) (cl sl : Nat) (H : Heap) (locs : List Loc) (ls : Array Slot), cl + 8 * k ≤ 10000 → sl + 48 * k ≤ 200000 → HM G Sh M H → va_S (AA G) s.heap H locs → lv_has ls 7 [(0, .ref b), (1, .ref x), (2, .ref mm), (3, .ref out), (4, .int i)] → iter k (fun s => fL_body n Sh xs L x mm out s.1 s.2) (i, M) = some 1 → W p l e room_1 s m args below meth c H locs cl sl Q (F0 m 23 ls []) := by
  intro k
  induction k with
  | zero => intro i M cl sl H locs ls h1 h2 hP hS hl h; exact (iter_0 h).elim
  | succ k ih =>
    intro i M cl sl H locs ls h1 h2 hP hS hl h
    obtain ⟨z, h, hz⟩ := iter_some h
    replace h : fL_body n Sh xs L x mm out i M = some z := h
    unfold fL_body at h
    have hRc : cl + 8 ≤ room_1.cells ∧ sl + 48 ≤ room_1.slots := ⟨show cl + 8 ≤ 601024 by omega, show sl + 48 ≤ 7293034 by omega⟩
    have hno : ∀ q : Int32, z = .inr q → q = 1 := fun q e => by rw [e] at hz; exact itK_inr hz
    have fin : ∀ (y : Mm ⊕ Int32), (∀ M1, y = .inl M1 → z = .inl (i + 4, M1)) → ∀ (M1 : Mm) (H : Heap) (locs : List Loc) (ls : Array Slot), y = .inl M1 → HM G Sh M1 H → va_S (AA G) s.heap H locs → lv_has ls 7 [(0, .ref b), (1, .ref x), (2, .ref mm), (3, .ref out), (4, .int i)] → W p l e room_1 s m args below meth c H locs (cl + 8) (sl + 48) Q (F0 m 2033 ls []) := by
      intro y hy M1 H locs ls e hP hS hl
      refine lv_iinc (v := i + 4) (lv' := [(4, .int (i + 4)), (0, .ref b), (1, .ref x), (2, .ref mm), (3, .ref out)]) C.1 C.2.1 dL_law_2033 hl (k := 4) rfl rfl (by decide) rfl (fun ls hl => ?_)
      refine lv_goto (tgt := 23) C.1 C.2.1 dL_law_2036 (by decide) ?_
      rw [hy M1 e] at hz
      exact ih (i + 4) M1 _ _ _ _ _ (by omega) (by omega) hP hS (lv_sub hl [1, 2, 3, 4, 0] rfl) (itK_inl hz)
    refine lv_iload C.1 C.2.1 dL_law_23 (lv_at hl 4 rfl) ?_
    refine lv_aload_n C.1 C.2.1 dL_law_25 rfl (lv_at hl 0 rfl) ?_
    refine va_slen C.1 C.2.1 hXs hbl hbA hS dL_law_26 ?_
    refine lv_iconst (v := 4) C.1 C.2.1 dL_law_27 (by decide) ?_
    refine lv_isub C.1 C.2.1 dL_law_28 ?_
    refine b_igt (tgt := 2039) C dL_law_29 (by decide) h (fun h => ?_) (fun h => ?_)
    · refine lv_aload_n C.1 C.2.1 dL_law_32 rfl (lv_at hl 0 rfl) ?_
      refine lv_iload C.1 C.2.1 dL_law_33 (lv_at hl 4 rfl) ?_
      refine r_scr C hXs hbl hbA hS dL_law_35 h (fun t h => ?_)
      refine lv_bipush (v := 63) C.1 C.2.1 dL_law_36 (by decide) ?_
      refine lv_iand C.1 C.2.1 dL_law_38 ?_
      by_cases q0 : t &&& 63 = 0
      · rw [if_pos q0] at h
        obtain ⟨y, hy, e1, e2⟩ := cont_some h
        refine lv_tableIn (off := 161) (tgt := 200) C.1 C.2.1 dL_law_39 (by rw [q0]; decide) (by rw [q0]; decide) (by rw [q0]; decide) (by decide) ?_
        exact kL_c0 C hfl hK hX hN hb hXs hbl hbA hTx hTm hy hRc hP hS hl (fun q e => hno q (e2 q e)) (fin y e1)
      rw [if_neg q0] at h
      by_cases q1 : t &&& 63 = 1
      · rw [if_pos q1] at h
        obtain ⟨y, hy, e1, e2⟩ := cont_some h
        refine lv_tableIn (off := 241) (tgt := 280) C.1 C.2.1 dL_law_39 (by rw [q1]; decide) (by rw [q1]; decide) (by rw [q1]; decide) (by decide) ?_
        exact kL_c1 C hfl hK hX hN hb hXs hbl hbA hTx hTm hy hRc hP hS hl (fun q e => hno q (e2 q e)) (fin y e1)
      rw [if_neg q1] at h
      by_cases q2 : t &&& 63 = 2
      · rw [if_pos q2] at h
        obtain ⟨y, hy, e1, e2⟩ := cont_some h
        refine lv_tableIn (off := 297) (tgt := 336) C.1 C.2.1 dL_law_39 (by rw [q2]; decide) (by rw [q2]; decide) (by rw [q2]; decide) (by decide) ?_
        exact kL_c2 C hfl hK hX hN hb hXs hbl hbA hTx hTm hy hRc hP hS hl (fun q e => hno q (e2 q e)) (fin y e1)
      rw [if_neg q2] at h
      by_cases q3 : t &&& 63 = 3
      · rw [if_pos q3] at h
        obtain ⟨y, hy, e1, e2⟩ := cont_some h
        refine lv_tableIn (off := 377) (tgt := 416) C.1 C.2.1 dL_law_39 (by rw [q3]; decide) (by rw [q3]; decide) (by rw [q3]; decide) (by decide) ?_
        exact kL_c3 C hfl hK hX hN hb hXs hbl hbA hTx hTm hy hRc hP hS hl (fun q e => hno q (e2 q e)) (fin y e1)
      rw [if_neg q3] at h
      by_cases q4 : t &&& 63 = 4
      · rw [if_pos q4] at h
        obtain ⟨y, hy, e1, e2⟩ := cont_some h
        refine lv_tableIn (off := 390) (tgt := 429) C.1 C.2.1 dL_law_39 (by rw [q4]; decide) (by rw [q4]; decide) (by rw [q4]; decide) (by decide) ?_
        exact kL_c4 C hfl hK hX hN hb hXs hbl hbA hTx hTm hy hRc hP hS hl (fun q e => hno q (e2 q e)) (fin y e1)
      rw [if_neg q4] at h
      by_cases q5 : t &&& 63 = 5
      · rw [if_pos q5] at h
        obtain ⟨y, hy, e1, e2⟩ := cont_some h
        refine lv_tableIn (off := 458) (tgt := 497) C.1 C.2.1 dL_law_39 (by rw [q5]; decide) (by rw [q5]; decide) (by rw [q5]; decide) (by decide) ?_
        exact kL_c5 C hfl hK hX hN hb hXs hbl hbA hTx hTm hy hRc hP hS hl (fun q e => hno q (e2 q e)) (fin y e1)
      rw [if_neg q5] at h
      by_cases q6 : t &&& 63 = 6
      · rw [if_pos q6] at h
        obtain ⟨y, hy, e1, e2⟩ := cont_some h
        refine lv_tableIn (off := 526) (tgt := 565) C.1 C.2.1 dL_law_39 (by rw [q6]; decide) (by rw [q6]; decide) (by rw [q6]; decide) (by decide) ?_
        exact kL_c6 C hfl hK hX hN hb hXs hbl hbA hTx hTm hy hRc hP hS hl (fun q e => hno q (e2 q e)) (fin y e1)
      rw [if_neg q6] at h
      by_cases q7 : t &&& 63 = 7
      · rw [if_pos q7] at h
        obtain ⟨y, hy, e1, e2⟩ := cont_some h
        refine lv_tableIn (off := 606) (tgt := 645) C.1 C.2.1 dL_law_39 (by rw [q7]; decide) (by rw [q7]; decide) (by rw [q7]; decide) (by decide) ?_
        exact kL_c7 C hfl hK hX hN hb hXs hbl hbA hTx hTm hy hRc hP hS hl (fun q e => hno q (e2 q e)) (fin y e1)
      rw [if_neg q7] at h
      by_cases q8 : t &&& 63 = 8
      · rw [if_pos q8] at h
        obtain ⟨y, hy, e1, e2⟩ := cont_some h
        refine lv_tableIn (off := 662) (tgt := 701) C.1 C.2.1 dL_law_39 (by rw [q8]; decide) (by rw [q8]; decide) (by rw [q8]; decide) (by decide) ?_
        exact kL_c8 C hfl hK hX hN hb hXs hbl hbA hTx hTm hy hRc hP hS hl (fun q e => hno q (e2 q e)) (fin y e1)
      rw [if_neg q8] at h
      by_cases q9 : t &&& 63 = 9
      · rw [if_pos q9] at h
        obtain ⟨y, hy, e1, e2⟩ := cont_some h
        refine lv_tableIn (off := 718) (tgt := 757) C.1 C.2.1 dL_law_39 (by rw [q9]; decide) (by rw [q9]; decide) (by rw [q9]; decide) (by decide) ?_
        exact kL_c9 C hfl hK hX hN hb hXs hbl hbA hTx hTm hy hRc hP hS hl (fun q e => hno q (e2 q e)) (fin y e1)
      rw [if_neg q9] at h
      by_cases q10 : t &&& 63 = 10
      · rw [if_pos q10] at h
        obtain ⟨y, hy, e1, e2⟩ := cont_some h
        refine lv_tableIn (off := 786) (tgt := 825) C.1 C.2.1 dL_law_39 (by rw [q10]; decide) (by rw [q10]; decide) (by rw [q10]; decide) (by decide) ?_
        exact kL_c10 C hfl hK hX hN hb hXs hbl hbA hTx hTm hy hRc hP hS hl (fun q e => hno q (e2 q e)) (fin y e1)
      rw [if_neg q10] at h
      by_cases q11 : t &&& 63 = 11
      · rw [if_pos q11] at h
        obtain ⟨y, hy, e1, e2⟩ := cont_some h
        refine lv_tableIn (off := 866) (tgt := 905) C.1 C.2.1 dL_law_39 (by rw [q11]; decide) (by rw [q11]; decide) (by rw [q11]; decide) (by decide) ?_
        exact kL_c11 C hfl hK hX hN hb hXs hbl hbA hTx hTm hy hRc hP hS hl (fun q e => hno q (e2 q e)) (fin y e1)
      rw [if_neg q11] at h
      by_cases q12 : t &&& 63 = 12
      · rw [if_pos q12] at h
        obtain ⟨y, hy, e1, e2⟩ := cont_some h
        refine lv_tableIn (off := 934) (tgt := 973) C.1 C.2.1 dL_law_39 (by rw [q12]; decide) (by rw [q12]; decide) (by rw [q12]; decide) (by decide) ?_
        exact kL_c12 C hfl hK hX hN hb hXs hbl hbA hTx hTm hy hRc hP hS hl (fun q e => hno q (e2 q e)) (fin y e1)
      rw [if_neg q12] at h
      by_cases q13 : t &&& 63 = 13
      · rw [if_pos q13] at h
        obtain ⟨y, hy, e1, e2⟩ := cont_some h
        refine lv_tableIn (off := 959) (tgt := 998) C.1 C.2.1 dL_law_39 (by rw [q13]; decide) (by rw [q13]; decide) (by rw [q13]; decide) (by decide) ?_
        exact kL_c13 C hfl hK hX hN hb hXs hbl hbA hTx hTm hy hRc hP hS hl (fun q e => hno q (e2 q e)) (fin y e1)
      rw [if_neg q13] at h
      by_cases q14 : t &&& 63 = 14
      · rw [if_pos q14] at h
        obtain ⟨y, hy, e1, e2⟩ := cont_some h
        refine lv_tableIn (off := 1022) (tgt := 1061) C.1 C.2.1 dL_law_39 (by rw [q14]; decide) (by rw [q14]; decide) (by rw [q14]; decide) (by decide) ?_
        exact kL_c14 C hfl hK hX hN hb hXs hbl hbA hTx hTm hy hRc hP hS hl (fun q e => hno q (e2 q e)) (fin y e1)
      rw [if_neg q14] at h
      by_cases q15 : t &&& 63 = 15
      · rw [if_pos q15] at h
        obtain ⟨y, hy, e1, e2⟩ := cont_some h
        refine lv_tableIn (off := 1047) (tgt := 1086) C.1 C.2.1 dL_law_39 (by rw [q15]; decide) (by rw [q15]; decide) (by rw [q15]; decide) (by decide) ?_
        exact kL_c15 C hfl hK hX hN hb hXs hbl hbA hTx hTm hy hRc hP hS hl (fun q e => hno q (e2 q e)) (fin y e1)
      rw [if_neg q15] at h
      by_cases q16 : t &&& 63 = 16
      · rw [if_pos q16] at h
        obtain ⟨y, hy, e1, e2⟩ := cont_some h
        refine lv_tableIn (off := 1060) (tgt := 1099) C.1 C.2.1 dL_law_39 (by rw [q16]; decide) (by rw [q16]; decide) (by rw [q16]; decide) (by decide) ?_
        exact kL_c16 C hfl hK hX hN hb hXs hbl hbA hTx hTm hy hRc hP hS hl (fun q e => hno q (e2 q e)) (fin y e1)
      rw [if_neg q16] at h
      by_cases q17 : t &&& 63 = 17
      · rw [if_pos q17] at h
        obtain ⟨y, hy, e1, e2⟩ := cont_some h
        refine lv_tableIn (off := 1116) (tgt := 1155) C.1 C.2.1 dL_law_39 (by rw [q17]; decide) (by rw [q17]; decide) (by rw [q17]; decide) (by decide) ?_
        exact kL_c17 C hfl hK hX hN hb hXs hbl hbA hTx hTm hy hRc hP hS hl (fun q e => hno q (e2 q e)) (fin y e1)
      rw [if_neg q17] at h
      by_cases q18 : t &&& 63 = 18
      · rw [if_pos q18] at h
        obtain ⟨y, hy, e1, e2⟩ := cont_some h
        refine lv_tableIn (off := 1157) (tgt := 1196) C.1 C.2.1 dL_law_39 (by rw [q18]; decide) (by rw [q18]; decide) (by rw [q18]; decide) (by decide) ?_
        exact kL_c18 C hfl hK hX hN hb hXs hbl hbA hTx hTm hy hRc hP hS hl (fun q e => hno q (e2 q e)) (fin y e1)
      rw [if_neg q18] at h
      by_cases q19 : t &&& 63 = 19
      · rw [if_pos q19] at h
        obtain ⟨y, hy, e1, e2⟩ := cont_some h
        refine lv_tableIn (off := 1213) (tgt := 1252) C.1 C.2.1 dL_law_39 (by rw [q19]; decide) (by rw [q19]; decide) (by rw [q19]; decide) (by decide) ?_
        exact kL_c19 C hfl hK hX hN hb hXs hbl hbA hTx hTm hy hRc hP hS hl (fun q e => hno q (e2 q e)) (fin y e1)
      rw [if_neg q19] at h
      by_cases q20 : t &&& 63 = 20
      · rw [if_pos q20] at h
        obtain ⟨y, hy, e1, e2⟩ := cont_some h
        refine lv_tableIn (off := 1269) (tgt := 1308) C.1 C.2.1 dL_law_39 (by rw [q20]; decide) (by rw [q20]; decide) (by rw [q20]; decide) (by decide) ?_
        exact kL_c20 C hfl hK hX hN hb hXs hbl hbA hTx hTm hy hRc hP hS hl (fun q e => hno q (e2 q e)) (fin y e1)
      rw [if_neg q20] at h
      by_cases q21 : t &&& 63 = 21
      · rw [if_pos q21] at h
        obtain ⟨y, hy, e1, e2⟩ := cont_some h
        refine lv_tableIn (off := 1282) (tgt := 1321) C.1 C.2.1 dL_law_39 (by rw [q21]; decide) (by rw [q21]; decide) (by rw [q21]; decide) (by decide) ?_
        exact kL_c21 C hfl hK hX hN hb hXs hbl hbA hTx hTm hy hRc hP hS hl (fun q e => hno q (e2 q e)) (fin y e1)
      rw [if_neg q21] at h
      by_cases q22 : t &&& 63 = 22
      · rw [if_pos q22] at h
        obtain ⟨y, hy, e1, e2⟩ := cont_some h
        refine lv_tableIn (off := 1338) (tgt := 1377) C.1 C.2.1 dL_law_39 (by rw [q22]; decide) (by rw [q22]; decide) (by rw [q22]; decide) (by decide) ?_
        exact kL_c22 C hfl hK hX hN hb hXs hbl hbA hTx hTm hy hRc hP hS hl (fun q e => hno q (e2 q e)) (fin y e1)
      rw [if_neg q22] at h
      by_cases q23 : t &&& 63 = 23
      · rw [if_pos q23] at h
        obtain ⟨y, hy, e1, e2⟩ := cont_some h
        refine lv_tableIn (off := 1351) (tgt := 1390) C.1 C.2.1 dL_law_39 (by rw [q23]; decide) (by rw [q23]; decide) (by rw [q23]; decide) (by decide) ?_
        exact kL_c23 C hfl hK hX hN hb hXs hbl hbA hTx hTm hy hRc hP hS hl (fun q e => hno q (e2 q e)) (fin y e1)
      rw [if_neg q23] at h
      by_cases q24 : t &&& 63 = 24
      · rw [if_pos q24] at h
        obtain ⟨y, hy, e1, e2⟩ := cont_some h
        refine lv_tableIn (off := 1419) (tgt := 1458) C.1 C.2.1 dL_law_39 (by rw [q24]; decide) (by rw [q24]; decide) (by rw [q24]; decide) (by decide) ?_
        exact kL_c24 C hfl hK hX hN hb hXs hbl hbA hTx hTm hy hRc hP hS hl (fun q e => hno q (e2 q e)) (fin y e1)
      rw [if_neg q24] at h
      by_cases q25 : t &&& 63 = 25
      · rw [if_pos q25] at h
        obtain ⟨y, hy, e1, e2⟩ := cont_some h
        refine lv_tableIn (off := 1456) (tgt := 1495) C.1 C.2.1 dL_law_39 (by rw [q25]; decide) (by rw [q25]; decide) (by rw [q25]; decide) (by decide) ?_
        exact kL_c25 C hfl hK hX hN hb hXs hbl hbA hTx hTm hy hRc hP hS hl (fun q e => hno q (e2 q e)) (fin y e1)
      rw [if_neg q25] at h
      by_cases q26 : t &&& 63 = 26
      · rw [if_pos q26] at h
        obtain ⟨y, hy, e1, e2⟩ := cont_some h
        refine lv_tableIn (off := 1469) (tgt := 1508) C.1 C.2.1 dL_law_39 (by rw [q26]; decide) (by rw [q26]; decide) (by rw [q26]; decide) (by decide) ?_
        exact kL_c26 C hfl hK hX hN hb hXs hbl hbA hTx hTm hy hRc hP hS hl (fun q e => hno q (e2 q e)) (fin y e1)
      rw [if_neg q26] at h
      by_cases q27 : t &&& 63 = 27
      · rw [if_pos q27] at h
        obtain ⟨y, hy, e1, e2⟩ := cont_some h
        refine lv_tableIn (off := 1494) (tgt := 1533) C.1 C.2.1 dL_law_39 (by rw [q27]; decide) (by rw [q27]; decide) (by rw [q27]; decide) (by decide) ?_
        exact kL_c27 C hfl hK hX hN hb hXs hbl hbA hTx hTm hy hRc hP hS hl (fun q e => hno q (e2 q e)) (fin y e1)
      rw [if_neg q27] at h
      by_cases q28 : t &&& 63 = 28
      · rw [if_pos q28] at h
        obtain ⟨y, hy, e1, e2⟩ := cont_some h
        refine lv_tableIn (off := 1507) (tgt := 1546) C.1 C.2.1 dL_law_39 (by rw [q28]; decide) (by rw [q28]; decide) (by rw [q28]; decide) (by decide) ?_
        exact kL_c28 C hfl hK hX hN hb hXs hbl hbA hTx hTm hy hRc hP hS hl (fun q e => hno q (e2 q e)) (fin y e1)
      rw [if_neg q28] at h
      by_cases q29 : t &&& 63 = 29
      · rw [if_pos q29] at h
        obtain ⟨y, hy, e1, e2⟩ := cont_some h
        refine lv_tableIn (off := 1591) (tgt := 1630) C.1 C.2.1 dL_law_39 (by rw [q29]; decide) (by rw [q29]; decide) (by rw [q29]; decide) (by decide) ?_
        exact kL_c29 C hfl hK hX hN hb hXs hbl hbA hTx hTm hy hRc hP hS hl (fun q e => hno q (e2 q e)) (fin y e1)
      rw [if_neg q29] at h
      by_cases q30 : t &&& 63 = 30
      · rw [if_pos q30] at h
        obtain ⟨y, hy, e1, e2⟩ := cont_some h
        refine lv_tableIn (off := 1671) (tgt := 1710) C.1 C.2.1 dL_law_39 (by rw [q30]; decide) (by rw [q30]; decide) (by rw [q30]; decide) (by decide) ?_
        exact kL_c30 C hfl hK hX hN hb hXs hbl hbA hTx hTm hy hRc hP hS hl (fun q e => hno q (e2 q e)) (fin y e1)
      rw [if_neg q30] at h
      by_cases q31 : t &&& 63 = 31
      · rw [if_pos q31] at h
        obtain ⟨y, hy, e1, e2⟩ := cont_some h
        refine lv_tableIn (off := 1755) (tgt := 1794) C.1 C.2.1 dL_law_39 (by rw [q31]; decide) (by rw [q31]; decide) (by rw [q31]; decide) (by decide) ?_
        exact kL_c31 C hfl hK hX hN hb hXs hbl hbA hTx hTm hy hRc hP hS hl (fun q e => hno q (e2 q e)) (fin y e1)
      rw [if_neg q31] at h
      by_cases q32 : t &&& 63 = 32
      · rw [if_pos q32] at h
        obtain ⟨y, hy, e1, e2⟩ := cont_some h
        refine lv_tableIn (off := 1811) (tgt := 1850) C.1 C.2.1 dL_law_39 (by rw [q32]; decide) (by rw [q32]; decide) (by rw [q32]; decide) (by decide) ?_
        exact kL_c32 C hfl hK hX hN hb hXs hbl hbA hTx hTm hy hRc hP hS hl (fun q e => hno q (e2 q e)) (fin y e1)
      rw [if_neg q32] at h
      by_cases q33 : t &&& 63 = 33
      · rw [if_pos q33] at h
        obtain ⟨y, hy, e1, e2⟩ := cont_some h
        refine lv_tableIn (off := 1867) (tgt := 1906) C.1 C.2.1 dL_law_39 (by rw [q33]; decide) (by rw [q33]; decide) (by rw [q33]; decide) (by decide) ?_
        exact kL_c33 C hfl hK hX hN hb hXs hbl hbA hTx hTm hy hRc hP hS hl (fun q e => hno q (e2 q e)) (fin y e1)
      rw [if_neg q33] at h
      by_cases q34 : t &&& 63 = 34
      · rw [if_pos q34] at h
        obtain ⟨y, hy, e1, e2⟩ := cont_some h
        refine lv_tableIn (off := 1923) (tgt := 1962) C.1 C.2.1 dL_law_39 (by rw [q34]; decide) (by rw [q34]; decide) (by rw [q34]; decide) (by decide) ?_
        exact kL_c34 C hfl hK hX hN hb hXs hbl hbA hTx hTm hy hRc hP hS hl (fun q e => hno q (e2 q e)) (fin y e1)
      rw [if_neg q34] at h
      by_cases q35 : t &&& 63 = 35
      · rw [if_pos q35] at h
        obtain ⟨y, hy, e1, e2⟩ := cont_some h
        refine lv_tableIn (off := 1936) (tgt := 1975) C.1 C.2.1 dL_law_39 (by rw [q35]; decide) (by rw [q35]; decide) (by rw [q35]; decide) (by decide) ?_
        exact kL_c35 C hfl hK hX hN hb hXs hbl hbA hTx hTm hy hRc hP hS hl (fun q e => hno q (e2 q e)) (fin y e1)
      rw [if_neg q35] at h
      by_cases q36 : t &&& 63 = 36
      · rw [if_pos q36] at h
        obtain ⟨y, hy, e1, e2⟩ := cont_some h
        refine lv_tableIn (off := 1980) (tgt := 2019) C.1 C.2.1 dL_law_39 (by rw [q36]; decide) (by rw [q36]; decide) (by rw [q36]; decide) (by decide) ?_
        exact kL_c36 C hfl hK hX hN hb hXs hbl hbA hTx hTm hy hRc hP hS hl (fun q e => hno q (e2 q e)) (fin y e1)
      rw [if_neg q36] at h
      obtain ⟨y, hy, e1, e2⟩ := cont_some h
      refine lv_tableOut (tgt := 2033) C.1 C.2.1 dL_law_39 (sw_out (x := t &&& 63) (lo := 0) (n := 37) (by decide) (fun j hj => match j, hj with | 0, _ => fun hx => q0 (hx.trans (by decide)) | 1, _ => fun hx => q1 (hx.trans (by decide)) | 2, _ => fun hx => q2 (hx.trans (by decide)) | 3, _ => fun hx => q3 (hx.trans (by decide)) | 4, _ => fun hx => q4 (hx.trans (by decide)) | 5, _ => fun hx => q5 (hx.trans (by decide)) | 6, _ => fun hx => q6 (hx.trans (by decide)) | 7, _ => fun hx => q7 (hx.trans (by decide)) | 8, _ => fun hx => q8 (hx.trans (by decide)) | 9, _ => fun hx => q9 (hx.trans (by decide)) | 10, _ => fun hx => q10 (hx.trans (by decide)) | 11, _ => fun hx => q11 (hx.trans (by decide)) | 12, _ => fun hx => q12 (hx.trans (by decide)) | 13, _ => fun hx => q13 (hx.trans (by decide)) | 14, _ => fun hx => q14 (hx.trans (by decide)) | 15, _ => fun hx => q15 (hx.trans (by decide)) | 16, _ => fun hx => q16 (hx.trans (by decide)) | 17, _ => fun hx => q17 (hx.trans (by decide)) | 18, _ => fun hx => q18 (hx.trans (by decide)) | 19, _ => fun hx => q19 (hx.trans (by decide)) | 20, _ => fun hx => q20 (hx.trans (by decide)) | 21, _ => fun hx => q21 (hx.trans (by decide)) | 22, _ => fun hx => q22 (hx.trans (by decide)) | 23, _ => fun hx => q23 (hx.trans (by decide)) | 24, _ => fun hx => q24 (hx.trans (by decide)) | 25, _ => fun hx => q25 (hx.trans (by decide)) | 26, _ => fun hx => q26 (hx.trans (by decide)) | 27, _ => fun hx => q27 (hx.trans (by decide)) | 28, _ => fun hx => q28 (hx.trans (by decide)) | 29, _ => fun hx => q29 (hx.trans (by decide)) | 30, _ => fun hx => q30 (hx.trans (by decide)) | 31, _ => fun hx => q31 (hx.trans (by decide)) | 32, _ => fun hx => q32 (hx.trans (by decide)) | 33, _ => fun hx => q33 (hx.trans (by decide)) | 34, _ => fun hx => q34 (hx.trans (by decide)) | 35, _ => fun hx => q35 (hx.trans (by decide)) | 36, _ => fun hx => q36 (hx.trans (by decide)) | (k + 37), hj => absurd hj (by omega))) (by decide) ?_
      refine W.widen (k := cl + 8) (n := sl + 48) (Nat.le_add_right _ _) (Nat.le_add_right _ _) ?_
      exact fin y e1 M _ _ _ (Option.some.inj hy).symm hP hS hl
    · refine lv_iconst (v := 1) C.1 C.2.1 dL_law_2039 (by decide) ?_
      exact hq _ _ _ _ _ hS (by omega) (by omega)
end LAWC
