theorem dJ0_length_8abf5_0 : decode cJ0_length_8abf5 0 = .ok (.aload_n 0, 1) := by decide +kernel
theorem dJ0_length_8abf5_1 : decode cJ0_length_8abf5 1 = .ok (.getfield 9, 3) := by decide +kernel
theorem dJ0_length_8abf5_4 : decode cJ0_length_8abf5 4 = .ok (.arraylength, 1) := by decide +kernel
theorem dJ0_length_8abf5_5 : decode cJ0_length_8abf5 5 = .ok (.aload_n 0, 1) := by decide +kernel
theorem dJ0_length_8abf5_6 : decode cJ0_length_8abf5 6 = .ok (.invokevirtual 335, 3) := by decide +kernel
theorem dJ0_length_8abf5_9 : decode cJ0_length_8abf5 9 = .ok (.ishr, 1) := by decide +kernel
theorem dJ0_length_8abf5_10 : decode cJ0_length_8abf5 10 = .ok (.ireturn, 1) := by decide +kernel
theorem dJ0_coder_7d493_0 : decode cJ0_coder_7d493 0 = .ok (.getstatic 38, 3) := by decide +kernel
theorem dJ0_coder_7d493_3 : decode cJ0_coder_7d493 3 = .ok (.ifCond .eq 10, 3) := by decide +kernel
theorem dJ0_coder_7d493_6 : decode cJ0_coder_7d493 6 = .ok (.aload_n 0, 1) := by decide +kernel
theorem dJ0_coder_7d493_7 : decode cJ0_coder_7d493 7 = .ok (.getfield 15, 3) := by decide +kernel
theorem dJ0_coder_7d493_10 : decode cJ0_coder_7d493 10 = .ok (.goto 4, 3) := by decide +kernel
theorem dJ0_coder_7d493_13 : decode cJ0_coder_7d493 13 = .ok (.iconst 1, 1) := by decide +kernel
theorem dJ0_coder_7d493_14 : decode cJ0_coder_7d493 14 = .ok (.ireturn, 1) := by decide +kernel
theorem dJ0_charAt_5068e_0 : decode cJ0_charAt_5068e 0 = .ok (.aload_n 0, 1) := by decide +kernel
theorem dJ0_charAt_5068e_1 : decode cJ0_charAt_5068e 1 = .ok (.invokevirtual 492, 3) := by decide +kernel
theorem dJ0_charAt_5068e_4 : decode cJ0_charAt_5068e 4 = .ok (.ifCond .eq 12, 3) := by decide +kernel
theorem dJ0_charAt_5068e_7 : decode cJ0_charAt_5068e 7 = .ok (.aload_n 0, 1) := by decide +kernel
theorem dJ0_charAt_5068e_8 : decode cJ0_charAt_5068e 8 = .ok (.getfield 9, 3) := by decide +kernel
theorem dJ0_charAt_5068e_11 : decode cJ0_charAt_5068e 11 = .ok (.iload_n 1, 1) := by decide +kernel
theorem dJ0_charAt_5068e_12 : decode cJ0_charAt_5068e 12 = .ok (.invokestatic 495, 3) := by decide +kernel
theorem dJ0_charAt_5068e_15 : decode cJ0_charAt_5068e 15 = .ok (.ireturn, 1) := by decide +kernel
theorem dJ0_charAt_5068e_16 : decode cJ0_charAt_5068e 16 = .ok (.aload_n 0, 1) := by decide +kernel
theorem dJ0_charAt_5068e_17 : decode cJ0_charAt_5068e 17 = .ok (.getfield 9, 3) := by decide +kernel
theorem dJ0_charAt_5068e_20 : decode cJ0_charAt_5068e 20 = .ok (.iload_n 1, 1) := by decide +kernel
theorem dJ0_charAt_5068e_21 : decode cJ0_charAt_5068e 21 = .ok (.invokestatic 498, 3) := by decide +kernel
theorem dJ0_charAt_5068e_24 : decode cJ0_charAt_5068e 24 = .ok (.ireturn, 1) := by decide +kernel
theorem dJ0_isLatin1_aae02_0 : decode cJ0_isLatin1_aae02 0 = .ok (.getstatic 38, 3) := by decide +kernel
theorem dJ0_isLatin1_aae02_3 : decode cJ0_isLatin1_aae02 3 = .ok (.ifCond .eq 14, 3) := by decide +kernel
theorem dJ0_isLatin1_aae02_6 : decode cJ0_isLatin1_aae02 6 = .ok (.aload_n 0, 1) := by decide +kernel
theorem dJ0_isLatin1_aae02_7 : decode cJ0_isLatin1_aae02 7 = .ok (.getfield 15, 3) := by decide +kernel
theorem dJ0_isLatin1_aae02_10 : decode cJ0_isLatin1_aae02 10 = .ok (.ifCond .ne 7, 3) := by decide +kernel
theorem dJ0_isLatin1_aae02_13 : decode cJ0_isLatin1_aae02 13 = .ok (.iconst 1, 1) := by decide +kernel
theorem dJ0_isLatin1_aae02_14 : decode cJ0_isLatin1_aae02 14 = .ok (.goto 4, 3) := by decide +kernel
theorem dJ0_isLatin1_aae02_17 : decode cJ0_isLatin1_aae02 17 = .ok (.iconst 0, 1) := by decide +kernel
theorem dJ0_isLatin1_aae02_18 : decode cJ0_isLatin1_aae02 18 = .ok (.ireturn, 1) := by decide +kernel
theorem dJ0_checkIndex_df160_0 : decode cJ0_checkIndex_df160 0 = .ok (.iload_n 0, 1) := by decide +kernel
theorem dJ0_checkIndex_df160_1 : decode cJ0_checkIndex_df160 1 = .ok (.iload_n 1, 1) := by decide +kernel
theorem dJ0_checkIndex_df160_2 : decode cJ0_checkIndex_df160 2 = .ok (.getstatic 1053, 3) := by decide +kernel
theorem dJ0_checkIndex_df160_5 : decode cJ0_checkIndex_df160 5 = .ok (.invokestatic 1059, 3) := by decide +kernel
theorem dJ0_checkIndex_df160_8 : decode cJ0_checkIndex_df160 8 = .ok (.pop, 1) := by decide +kernel
theorem dJ0_checkIndex_df160_9 : decode cJ0_checkIndex_df160 9 = .ok (.return_, 1) := by decide +kernel
theorem dJ1_charAt_3b067_0 : decode cJ1_charAt_3b067 0 = .ok (.iload_n 1, 1) := by decide +kernel
theorem dJ1_charAt_3b067_1 : decode cJ1_charAt_3b067 1 = .ok (.aload_n 0, 1) := by decide +kernel
theorem dJ1_charAt_3b067_2 : decode cJ1_charAt_3b067 2 = .ok (.arraylength, 1) := by decide +kernel
theorem dJ1_charAt_3b067_3 : decode cJ1_charAt_3b067 3 = .ok (.invokestatic 9, 3) := by decide +kernel
theorem dJ1_charAt_3b067_6 : decode cJ1_charAt_3b067 6 = .ok (.aload_n 0, 1) := by decide +kernel
theorem dJ1_charAt_3b067_7 : decode cJ1_charAt_3b067 7 = .ok (.iload_n 1, 1) := by decide +kernel
theorem dJ1_charAt_3b067_8 : decode cJ1_charAt_3b067 8 = .ok (.baload, 1) := by decide +kernel
theorem dJ1_charAt_3b067_9 : decode cJ1_charAt_3b067 9 = .ok (.sipush 255, 3) := by decide +kernel
theorem dJ1_charAt_3b067_12 : decode cJ1_charAt_3b067 12 = .ok (.iand, 1) := by decide +kernel
theorem dJ1_charAt_3b067_13 : decode cJ1_charAt_3b067 13 = .ok (.i2c, 1) := by decide +kernel
theorem dJ1_charAt_3b067_14 : decode cJ1_charAt_3b067 14 = .ok (.ireturn, 1) := by decide +kernel
theorem dJ3_checkIndex_8e157_0 : decode cJ3_checkIndex_8e157 0 = .ok (.iload_n 0, 1) := by decide +kernel
theorem dJ3_checkIndex_8e157_1 : decode cJ3_checkIndex_8e157 1 = .ok (.ifCond .lt 8, 3) := by decide +kernel
theorem dJ3_checkIndex_8e157_4 : decode cJ3_checkIndex_8e157 4 = .ok (.iload_n 0, 1) := by decide +kernel
theorem dJ3_checkIndex_8e157_5 : decode cJ3_checkIndex_8e157 5 = .ok (.iload_n 1, 1) := by decide +kernel
theorem dJ3_checkIndex_8e157_6 : decode cJ3_checkIndex_8e157 6 = .ok (.if_icmp .lt 10, 3) := by decide +kernel
theorem dJ3_checkIndex_8e157_9 : decode cJ3_checkIndex_8e157 9 = .ok (.aload_n 2, 1) := by decide +kernel
theorem dJ3_checkIndex_8e157_10 : decode cJ3_checkIndex_8e157 10 = .ok (.iload_n 0, 1) := by decide +kernel
theorem dJ3_checkIndex_8e157_11 : decode cJ3_checkIndex_8e157 11 = .ok (.iload_n 1, 1) := by decide +kernel
theorem dJ3_checkIndex_8e157_12 : decode cJ3_checkIndex_8e157 12 = .ok (.invokestatic 95, 3) := by decide +kernel
theorem dJ3_checkIndex_8e157_15 : decode cJ3_checkIndex_8e157 15 = .ok (.athrow, 1) := by decide +kernel
theorem dJ3_checkIndex_8e157_16 : decode cJ3_checkIndex_8e157 16 = .ok (.iload_n 0, 1) := by decide +kernel
theorem dJ3_checkIndex_8e157_17 : decode cJ3_checkIndex_8e157 17 = .ok (.ireturn, 1) := by decide +kernel
section STRG
variable {p : Program} {l : Launch} {e : Env} {R : Room} {s : State} {m : MethodId} {args : Array Value} {below : List Frame} {meth : Method} {c : Code} {H : Heap} {locs : List Loc} {cells slots : Nat} {Q : State → Prop}
variable {cc : ByteArray} {nL pc nx : Nat} {ls : Array Slot} {rest : List Value} {own : String} {G : Gt} {Sh : Sp} {M M1 : Mm} {a : Nat} {ρ : Type} {r0 : ρ} {v : Value} {rv : Option Value} {i : Nat}
noncomputable def sLen (i : Nat) (K : Int32 → Option ρ) : Option ρ := chk (i < 9) (K (Int32.ofNat (lenS.getD i 0)))
noncomputable def sCh (i : Nat) (k : Int32) (K : Int32 → Option ρ) : Option ρ := chk (i < 9 ∧ vp_in k (lenS.getD i 0)) (K ((bytS.getD i []).getD k.toNatClampNeg 0))
theorem q_n (C : CallFix p m c cc nL s args GW own) (hlk : meth.locks = false) (hP : HM G Sh M H) (hS : SS G s s.heap.size H locs) {v : Int32} {ty : FieldType} (hr : meth.sig.returnType = some ty) (hn : narrow ty (.int v) = .int v) (e1 : rv = some (.int v)) (e2 : M1 = M) (hdg : decode cc pc = .ok (.ireturn, 1)) :
    W p l e R s m args below meth c H locs cells slots (MQ below (QG G Sh M1 rv) args s cells slots (AA G)) (F0 m pc ls [.int v]) := by
  subst e1 e2
  exact W.zret (Qc := QG G Sh M1 (some (.int v))) (free := AA G) C.1 C.2.1 hr hn (fun t ht _ => ⟨rfl, by rw [ht]; exact hP, hS.1.F ht, by rw [ht]; exact hS.2⟩) (fun q hq => hS.1.2.2 q hq) hdg (hlocks := hlk)
/-- a call on a literal -/
theorem r_K {y : MethodName} {bytes : ByteArray} {mL n idx : Nat} {ret : Option FieldType} {rm : Room} {As : List Value} (C : CallFix p m c cc nL s args GW own) (hK : KK G s) (hX : XE G s s.heap) (hb : G.1 ≤ s.heap.size) (hP : HM G Sh M H) (hS : SS G s nx H locs) (hl : ls.size = nL) (hi : i < 9)
    (hM : Ct l y bytes mL ret rm G Sh M (.ref (G.2.2.2.1 i) :: As) (some v) M1) (hlink : Cond.methodLink own idx y ∈ GW) (hy : MOK y bytes mL ret n) (w2 : Cond.instanceMethod y ∈ GW) (w3 : Cond.selects "java/lang/String" y y ∈ GW) (hR : rm.frames + 1 ≤ R.frames ∧ 8 + (mL + 11) + rm.locals ≤ R.locals) (hf : cells + rm.cells ≤ R.cells ∧ slots + rm.slots ≤ R.slots)
    (hn : As.length = n) {st0 : List Value} (hst : st0 = As.reverse ++ .ref (G.2.2.2.1 i) :: rest) (hW : (rest.map fun v => v.category).sum ≤ 8) (hdg : decode cc pc = .ok (.invokevirtual idx, 3))
    (kk : ∀ (H1 : Heap) (locs1 : List Loc), HM G Sh M1 H1 → SS G s nx H1 locs1 → W p l e R s m args below meth c H1 locs1 (cells + rm.cells) (slots + rm.slots) Q (F0 m (pc + 3) ls (v :: rest))) : W p l e R s m args below meth c H locs cells slots Q (F0 m pc ls st0) := by
  subst hst
  exact r_run (va_runV (As := As) (rest := rest) C hM ⟨cb_of C hy hlink hR, C.2.2.2.2 _ w2, C.2.2.2.2 _ w3⟩ ⟨PG.blind, vk_recv hX.2.2.2.2.1 hi hS.1, fun U hU hW => ⟨rfl, pg_at hK hX hP hS hb hU hW⟩⟩ rfl hn hl rfl (lv_room hW) hdg hf) hS kk
end STRG
abbrev rmS0 : Room := { frames := 1, cells := 0, slots := 0, locals := 0 }
abbrev rmS1 : Room := { frames := 2, cells := 0, slots := 0, locals := 30 }
abbrev rmS2 : Room := { frames := 3, cells := 0, slots := 0, locals := 60 }
abbrev rmS3 : Room := { frames := 4, cells := 0, slots := 0, locals := 90 }
set_option maxRecDepth 100000 in
set_option maxHeartbeats 4000000 in
theorem kS_coder {l : Launch} {G : Gt} {Sh : Sp} {M : Mm} {i : Nat} (hi : i < 9) : Ct l yJ0_coder_7d493 cJ0_coder_7d493 1 (some .byte) rmS0 G Sh M [.ref (G.2.2.2.1 i)] (some (.int 0)) M := by
  refine Ct.of (by decide) (Nat.le_of_ble_eq_true rfl) ?_
  intro p e s m args below meth c ls C hK hX hP hS hb hlk hr hl
  replace hl : lv_has ls 1 [(0, .ref (G.2.2.2.1 i))] := hl
  refine va_gets C.1 C.2.1 hX.2.2.1 hS.1 C.2.2.2.1 (C.2.2.2.2 _ wd_520) (fun _ h => h) dJ0_coder_7d493_0 ?_
  refine lv_if_eq (tgt := 13) C.1 C.2.1 dJ0_coder_7d493_3 (by decide) (fun q => absurd q (by decide)) (fun _ => ?_)
  refine lv_aload_n C.1 C.2.1 dJ0_coder_7d493_6 rfl (lv_at hl 0 rfl) ?_
  refine vk_getf C.1 C.2.1 (hX.2.2.2.2.1.1 i hi).2.1 hS.1 C.2.2.2.1 (C.2.2.2.2 _ wd_1555) (fun _ h => h) dJ0_coder_7d493_7 ?_
  refine lv_goto (tgt := 14) C.1 C.2.1 dJ0_coder_7d493_10 (by decide) ?_
  exact q_n C hlk hP hS hr rfl rfl rfl dJ0_coder_7d493_14
set_option maxRecDepth 100000 in
set_option maxHeartbeats 4000000 in
theorem kS_isLatin1 {l : Launch} {G : Gt} {Sh : Sp} {M : Mm} {i : Nat} (hi : i < 9) : Ct l yJ0_isLatin1_aae02 cJ0_isLatin1_aae02 1 (some .boolean) rmS0 G Sh M [.ref (G.2.2.2.1 i)] (some (.int 1)) M := by
  refine Ct.of (by decide) (Nat.le_of_ble_eq_true rfl) ?_
  intro p e s m args below meth c ls C hK hX hP hS hb hlk hr hl
  replace hl : lv_has ls 1 [(0, .ref (G.2.2.2.1 i))] := hl
  refine va_gets C.1 C.2.1 hX.2.2.1 hS.1 C.2.2.2.1 (C.2.2.2.2 _ wd_520) (fun _ h => h) dJ0_isLatin1_aae02_0 ?_
  refine lv_if_eq (tgt := 17) C.1 C.2.1 dJ0_isLatin1_aae02_3 (by decide) (fun q => absurd q (by decide)) (fun _ => ?_)
  refine lv_aload_n C.1 C.2.1 dJ0_isLatin1_aae02_6 rfl (lv_at hl 0 rfl) ?_
  refine vk_getf C.1 C.2.1 (hX.2.2.2.2.1.1 i hi).2.1 hS.1 C.2.2.2.1 (C.2.2.2.2 _ wd_1555) (fun _ h => h) dJ0_isLatin1_aae02_7 ?_
  refine lv_if_ne (tgt := 17) C.1 C.2.1 dJ0_isLatin1_aae02_10 (by decide) (fun q => absurd rfl q) (fun _ => ?_)
  refine lv_iconst (v := 1) C.1 C.2.1 dJ0_isLatin1_aae02_13 (by decide) ?_
  refine lv_goto (tgt := 18) C.1 C.2.1 dJ0_isLatin1_aae02_14 (by decide) ?_
  exact q_n C hlk hP hS hr rfl rfl rfl dJ0_isLatin1_aae02_18
theorem lenS_shr : ∀ i, i < 9 → (Int32.ofNat (lenS.getD i 0)) >>> ((0 : Int32) &&& 31) = Int32.ofNat (lenS.getD i 0) := by decide +kernel
set_option maxRecDepth 100000 in
set_option maxHeartbeats 4000000 in
theorem kS_length {l : Launch} {G : Gt} {Sh : Sp} {M : Mm} {i : Nat} (hi : i < 9) : Ct l yJ0_length_8abf5 cJ0_length_8abf5 1 (some .int) rmS1 G Sh M [.ref (G.2.2.2.1 i)] (some (.int (Int32.ofNat (lenS.getD i 0)))) M := by
  refine Ct.of (by decide) (Nat.le_of_ble_eq_true rfl) ?_
  intro p e s m args below meth c ls C hK hX hP hS hb hlk hr hl
  replace hl : lv_has ls 1 [(0, .ref (G.2.2.2.1 i))] := hl
  refine lv_aload_n C.1 C.2.1 dJ0_length_8abf5_0 rfl (lv_at hl 0 rfl) ?_
  refine vk_getf C.1 C.2.1 (hX.2.2.2.2.1.1 i hi).2.2.1 hS.1 C.2.2.2.1 (C.2.2.2.2 _ wd_1554) (fun _ h => h) dJ0_length_8abf5_1 ?_
  refine va_tlen C.1 C.2.1 (hX.2.2.2.2.1.1 i hi).2.2.2 hS.1 rfl dJ0_length_8abf5_4 ?_
  refine lv_aload_n C.1 C.2.1 dJ0_length_8abf5_5 rfl (lv_at hl 0 rfl) ?_
  refine r_K C hK hX hb hP hS hl.1 hi (kS_coder hi) wd_516 mo_J0_coder_7d493 wd_517 wd_518 ⟨Nat.le_of_ble_eq_true rfl, Nat.le_of_ble_eq_true rfl⟩ ⟨Nat.le_of_ble_eq_true rfl, Nat.le_of_ble_eq_true rfl⟩ rfl (rest := [.int (Int32.ofNat (lenS.getD i 0))]) rfl (Nat.le_of_ble_eq_true rfl) dJ0_length_8abf5_6 (fun H locs hP hS => ?_)
  refine lv_ishr C.1 C.2.1 dJ0_length_8abf5_9 ?_
  exact q_i C hlk hP hS hr (by rw [lenS_shr i hi]) rfl dJ0_length_8abf5_10
set_option maxRecDepth 100000 in
set_option maxHeartbeats 4000000 in
theorem kS_preN {l : Launch} {G : Gt} {Sh : Sp} {M : Mm} {k n : Int32} (h0 : ¬ k < 0) (h1 : k < n) : Ct l yJ3_checkIndex_8e157 cJ3_checkIndex_8e157 3 (some .int) rmS0 G Sh M [.int k, .int n, .null] (some (.int k)) M := by
  refine Ct.of (by decide) (Nat.le_of_ble_eq_true rfl) ?_
  intro p e s m args below meth c ls C hK hX hP hS hb hlk hr hl
  replace hl : lv_has ls 3 [(0, .int k), (1, .int n), (2, .null)] := hl
  refine lv_iload_n C.1 C.2.1 dJ3_checkIndex_8e157_0 rfl (lv_at hl 0 rfl) ?_
  refine lv_if_lt (tgt := 9) C.1 C.2.1 dJ3_checkIndex_8e157_1 (by decide) (fun q => absurd q h0) (fun _ => ?_)
  refine lv_iload_n C.1 C.2.1 dJ3_checkIndex_8e157_4 rfl (lv_at hl 0 rfl) ?_
  refine lv_iload_n C.1 C.2.1 dJ3_checkIndex_8e157_5 rfl (lv_at hl 1 rfl) ?_
  refine lv_icmp_lt (tgt := 16) C.1 C.2.1 dJ3_checkIndex_8e157_6 (by decide) (fun _ => ?_) (fun q => absurd h1 q)
  refine lv_iload_n C.1 C.2.1 dJ3_checkIndex_8e157_16 rfl (lv_at hl 0 rfl) ?_
  exact q_i C hlk hP hS hr rfl rfl dJ3_checkIndex_8e157_17
set_option maxRecDepth 100000 in
set_option maxHeartbeats 4000000 in
theorem kS_preR {l : Launch} {G : Gt} {Sh : Sp} {M : Mm} {k n : Int32} {t : Nat} (h0 : ¬ k < 0) (h1 : k < n) : Ct l yJ3_checkIndex_8e157 cJ3_checkIndex_8e157 3 (some .int) rmS0 G Sh M [.int k, .int n, .ref t] (some (.int k)) M := by
  refine Ct.of (by decide) (Nat.le_of_ble_eq_true rfl) ?_
  intro p e s m args below meth c ls C hK hX hP hS hb hlk hr hl
  replace hl : lv_has ls 3 [(0, .int k), (1, .int n), (2, .ref t)] := hl
  refine lv_iload_n C.1 C.2.1 dJ3_checkIndex_8e157_0 rfl (lv_at hl 0 rfl) ?_
  refine lv_if_lt (tgt := 9) C.1 C.2.1 dJ3_checkIndex_8e157_1 (by decide) (fun q => absurd q h0) (fun _ => ?_)
  refine lv_iload_n C.1 C.2.1 dJ3_checkIndex_8e157_4 rfl (lv_at hl 0 rfl) ?_
  refine lv_iload_n C.1 C.2.1 dJ3_checkIndex_8e157_5 rfl (lv_at hl 1 rfl) ?_
  refine lv_icmp_lt (tgt := 16) C.1 C.2.1 dJ3_checkIndex_8e157_6 (by decide) (fun _ => ?_) (fun q => absurd h1 q)
  refine lv_iload_n C.1 C.2.1 dJ3_checkIndex_8e157_16 rfl (lv_at hl 0 rfl) ?_
  exact q_i C hlk hP hS hr rfl rfl dJ3_checkIndex_8e157_17
set_option maxRecDepth 100000 in
set_option maxHeartbeats 4000000 in
theorem kS_check {l : Launch} {G : Gt} {Sh : Sp} {M : Mm} {k n : Int32} (h0 : ¬ k < 0) (h1 : k < n) : Ct l yJ0_checkIndex_df160 cJ0_checkIndex_df160 2 none rmS1 G Sh M [.int k, .int n] none M := by
  refine Ct.of (by decide) (Nat.le_of_ble_eq_true rfl) ?_
  intro p e s m args below meth c ls C hK hX hP hS hb hlk hr hl
  replace hl : lv_has ls 2 [(0, .int k), (1, .int n)] := hl
  refine lv_iload_n C.1 C.2.1 dJ0_checkIndex_df160_0 rfl (lv_at hl 0 rfl) ?_
  refine lv_iload_n C.1 C.2.1 dJ0_checkIndex_df160_1 rfl (lv_at hl 1 rfl) ?_
  rcases hX.2.2.2.1 with hZ | ⟨t, hZ⟩
  · refine va_gets C.1 C.2.1 hZ hS.1 C.2.2.2.1 (C.2.2.2.2 _ wd_536) (fun _ h => h) dJ0_checkIndex_df160_2 ?_
    refine r_S1 C hK hX hb hP hS hl.1 (kS_preN h0 h1) wd_538 mo_J3_checkIndex_8e157 wd_539 ⟨Nat.le_of_ble_eq_true rfl, Nat.le_of_ble_eq_true rfl⟩ ⟨Nat.le_of_ble_eq_true rfl, Nat.le_of_ble_eq_true rfl⟩ rfl (rest := []) rfl (Nat.le_of_ble_eq_true rfl) dJ0_checkIndex_df160_5 (fun H locs hP hS => ?_)
    refine lv_pop C.1 C.2.1 dJ0_checkIndex_df160_8 rfl ?_
    exact q_v C hlk hP hS hr rfl rfl dJ0_checkIndex_df160_9
  · refine va_gets C.1 C.2.1 hZ hS.1 C.2.2.2.1 (C.2.2.2.2 _ wd_536) (fun _ h => h) dJ0_checkIndex_df160_2 ?_
    refine r_S1 C hK hX hb hP hS hl.1 (kS_preR h0 h1) wd_538 mo_J3_checkIndex_8e157 wd_539 ⟨Nat.le_of_ble_eq_true rfl, Nat.le_of_ble_eq_true rfl⟩ ⟨Nat.le_of_ble_eq_true rfl, Nat.le_of_ble_eq_true rfl⟩ rfl (rest := []) rfl (Nat.le_of_ble_eq_true rfl) dJ0_checkIndex_df160_5 (fun H locs hP hS => ?_)
    refine lv_pop C.1 C.2.1 dJ0_checkIndex_df160_8 rfl ?_
    exact q_v C hlk hP hS hr rfl rfl dJ0_checkIndex_df160_9
theorem bytS_c : ∀ i, i < 9 → lenS.getD i 0 = (bytS.getD i []).length ∧ lenS.getD i 0 ≤ 8 ∧ ∀ b ∈ bytS.getD i [], ((Int32.toUInt32 (b &&& 255)) % 65536).toInt32 = b := by decide +kernel
theorem getD_mem {L : List Int32} {j : Nat} (h : j < L.length) : L.getD j 0 ∈ L := by
  rw [List.getD_eq_getElem?_getD, List.getElem?_eq_getElem h]
  exact List.getElem_mem h
theorem vp_in_lt {k : Int32} {n : Nat} (hn : n < 2 ^ 31) (h : vp_in k n) : k < Int32.ofNat n ∧ ¬ k < 0 := by
  obtain ⟨j, hj, rfl⟩ := vp_in_of h hn
  exact ⟨nI_lt hj hn, nI_pos (by omega)⟩
set_option maxRecDepth 100000 in
set_option maxHeartbeats 4000000 in
theorem kS_latAt {l : Launch} {G : Gt} {Sh : Sp} {M : Mm} {i : Nat} {k : Int32} (hi : i < 9) (hk : vp_in k (lenS.getD i 0)) : Ct l yJ1_charAt_3b067 cJ1_charAt_3b067 2 (some .char) rmS2 G Sh M [.ref (G.2.2.2.2 i), .int k] (some (.int ((bytS.getD i []).getD k.toNatClampNeg 0))) M := by
  refine Ct.of (by decide) (Nat.le_of_ble_eq_true rfl) ?_
  intro p e s m args below meth c ls C hK hX hP hS hb hlk hr hl
  replace hl : lv_has ls 2 [(0, .ref (G.2.2.2.2 i)), (1, .int k)] := hl
  obtain ⟨hlen, hle, hby⟩ := bytS_c i hi
  obtain ⟨k1, k0⟩ := vp_in_lt (by omega) hk
  refine lv_iload_n C.1 C.2.1 dJ1_charAt_3b067_0 rfl (lv_at hl 1 rfl) ?_
  refine lv_aload_n C.1 C.2.1 dJ1_charAt_3b067_1 rfl (lv_at hl 0 rfl) ?_
  refine va_tlen C.1 C.2.1 (hX.2.2.2.2.1.1 i hi).2.2.2 hS.1 rfl dJ1_charAt_3b067_2 ?_
  refine r_S (rv := none) C hK hX hb hP hS hl.1 (kS_check k0 k1) wd_533 mo_J0_checkIndex_df160 wd_534 ⟨Nat.le_of_ble_eq_true rfl, Nat.le_of_ble_eq_true rfl⟩ ⟨Nat.le_of_ble_eq_true rfl, Nat.le_of_ble_eq_true rfl⟩ rfl (rest := []) rfl (Nat.le_of_ble_eq_true rfl) dJ1_charAt_3b067_3 (fun H locs hP hS => ?_)
  refine lv_aload_n C.1 C.2.1 dJ1_charAt_3b067_6 rfl (lv_at hl 0 rfl) ?_
  refine lv_iload_n C.1 C.2.1 dJ1_charAt_3b067_7 rfl (lv_at hl 1 rfl) ?_
  obtain ⟨cell, g1, g2, g3, g4, g5, g6, g7⟩ := (hX.2.2.2.2.1.1 i hi).2.2.2.kept hS.1.2.1
  have hlt : k.toNatClampNeg < lenS.getD i 0 := Nat.not_le.mp fun q => hk (Or.inr q)
  refine W.bald C.1 C.2.1 g1 g2 g3 (fun q => hk (q.elim Or.inl (fun z => Or.inr (Nat.le_trans g4 z)))) (g6 _ hlt) rfl rfl dJ1_charAt_3b067_8 ?_
  refine lv_sipush (v := 255) C.1 C.2.1 dJ1_charAt_3b067_9 (by decide) ?_
  refine lv_iand C.1 C.2.1 dJ1_charAt_3b067_12 ?_
  have hb2 := hby ((bytS.getD i []).getD k.toNatClampNeg 0) (getD_mem (by omega))
  refine lv_i2c (v := (bytS.getD i []).getD k.toNatClampNeg 0) C.1 C.2.1 dJ1_charAt_3b067_13 hb2 ?_
  exact q_n C hlk hP hS hr (by rw [← hb2]; exact narrow_of_fits (pk_fc _)) rfl rfl dJ1_charAt_3b067_14
set_option maxRecDepth 100000 in
set_option maxHeartbeats 4000000 in
theorem kS_charAt {l : Launch} {G : Gt} {Sh : Sp} {M : Mm} {i : Nat} {k : Int32} (hi : i < 9) (hk : vp_in k (lenS.getD i 0)) : Ct l yJ0_charAt_5068e cJ0_charAt_5068e 2 (some .char) rmS3 G Sh M [.ref (G.2.2.2.1 i), .int k] (some (.int ((bytS.getD i []).getD k.toNatClampNeg 0))) M := by
  refine Ct.of (by decide) (Nat.le_of_ble_eq_true rfl) ?_
  intro p e s m args below meth c ls C hK hX hP hS hb hlk hr hl
  replace hl : lv_has ls 2 [(0, .ref (G.2.2.2.1 i)), (1, .int k)] := hl
  obtain ⟨hlen, hle, hby⟩ := bytS_c i hi
  refine lv_aload_n C.1 C.2.1 dJ0_charAt_5068e_0 rfl (lv_at hl 0 rfl) ?_
  refine r_K C hK hX hb hP hS hl.1 hi (kS_isLatin1 hi) wd_526 mo_J0_isLatin1_aae02 wd_527 wd_528 ⟨Nat.le_of_ble_eq_true rfl, Nat.le_of_ble_eq_true rfl⟩ ⟨Nat.le_of_ble_eq_true rfl, Nat.le_of_ble_eq_true rfl⟩ rfl (rest := []) rfl (Nat.le_of_ble_eq_true rfl) dJ0_charAt_5068e_1 (fun H locs hP hS => ?_)
  refine lv_if_eq (tgt := 16) C.1 C.2.1 dJ0_charAt_5068e_4 (by decide) (fun q => absurd q (by decide)) (fun _ => ?_)
  refine lv_aload_n C.1 C.2.1 dJ0_charAt_5068e_7 rfl (lv_at hl 0 rfl) ?_
  refine vk_getf C.1 C.2.1 (hX.2.2.2.2.1.1 i hi).2.2.1 hS.1 C.2.2.2.1 (C.2.2.2.2 _ wd_1554) (fun _ h => h) dJ0_charAt_5068e_8 ?_
  refine lv_iload_n C.1 C.2.1 dJ0_charAt_5068e_11 rfl (lv_at hl 1 rfl) ?_
  refine r_S1 C hK hX hb hP hS hl.1 (kS_latAt hi hk) wd_530 mo_J1_charAt_3b067 wd_531 ⟨Nat.le_of_ble_eq_true rfl, Nat.le_of_ble_eq_true rfl⟩ ⟨Nat.le_of_ble_eq_true rfl, Nat.le_of_ble_eq_true rfl⟩ rfl (rest := []) rfl (Nat.le_of_ble_eq_true rfl) dJ0_charAt_5068e_12 (fun H locs hP hS => ?_)
  have hlt : k.toNatClampNeg < lenS.getD i 0 := Nat.not_le.mp fun q => hk (Or.inr q)
  have hb2 := hby ((bytS.getD i []).getD k.toNatClampNeg 0) (getD_mem (by omega))
  exact q_n C hlk hP hS hr (by rw [← hb2]; exact narrow_of_fits (pk_fc _)) rfl rfl dJ0_charAt_5068e_15
section STRG2
variable {p : Program} {l : Launch} {e : Env} {R : Room} {s : State} {m : MethodId} {args : Array Value} {below : List Frame} {meth : Method} {c : Code} {H : Heap} {locs : List Loc} {Q : State → Prop}
variable {cc : ByteArray} {nL pc nx : Nat} {ls : Array Slot} {rest : List Value} {own : String} {G : Gt} {Sh : Sp} {M M1 : Mm} {ρ : Type} {r0 : ρ} {i idx cells slots : Nat}
theorem r_sLen (C : CallFix p m c cc nL s args GW own) (hK : KK G s) (hX : XE G s s.heap) (hb : G.1 ≤ s.heap.size) (hP : HM G Sh M H) (hS : SS G s nx H locs) (hl : ls.size = nL) (hlink : Cond.methodLink own idx yJ0_length_8abf5 ∈ GW) (hf : 3 ≤ R.frames) (hlo : 60 ≤ R.locals) (hW : (rest.map fun v => v.category).sum ≤ 8) (hdg : decode cc pc = .ok (.invokevirtual idx, 3))
    {K : Int32 → Option ρ} (h : sLen i K = some r0) (hcs : cells ≤ R.cells ∧ slots ≤ R.slots) (kk : ∀ (v : Int32) (H1 : Heap) (locs1 : List Loc), K v = some r0 → HM G Sh M H1 → SS G s nx H1 locs1 → W p l e R s m args below meth c H1 locs1 cells slots Q (F0 m (pc + 3) ls (.int v :: rest))) : W p l e R s m args below meth c H locs cells slots Q (F0 m pc ls (.ref (G.2.2.2.1 i) :: rest)) := by
  obtain ⟨hi, h⟩ := chk_some h
  exact r_K C hK hX hb hP hS hl hi (kS_length hi) hlink mo_J0_length_8abf5 wd_513 wd_514 ⟨hf, Nat.le_trans (Nat.le_of_ble_eq_true rfl) hlo⟩ hcs rfl (rest := rest) rfl hW hdg (fun H locs hP hS => kk _ H locs h hP hS)
theorem r_sCh {k : Int32} (C : CallFix p m c cc nL s args GW own) (hK : KK G s) (hX : XE G s s.heap) (hb : G.1 ≤ s.heap.size) (hP : HM G Sh M H) (hS : SS G s nx H locs) (hl : ls.size = nL) (hlink : Cond.methodLink own idx yJ0_charAt_5068e ∈ GW) (hf : 5 ≤ R.frames) (hlo : 120 ≤ R.locals) (hW : (rest.map fun v => v.category).sum ≤ 8) (hdg : decode cc pc = .ok (.invokevirtual idx, 3))
    {K : Int32 → Option ρ} (h : sCh i k K = some r0) (hcs : cells ≤ R.cells ∧ slots ≤ R.slots) (kk : ∀ (v : Int32) (H1 : Heap) (locs1 : List Loc), K v = some r0 → HM G Sh M H1 → SS G s nx H1 locs1 → W p l e R s m args below meth c H1 locs1 cells slots Q (F0 m (pc + 3) ls (.int v :: rest))) : W p l e R s m args below meth c H locs cells slots Q (F0 m pc ls (.int k :: .ref (G.2.2.2.1 i) :: rest)) := by
  obtain ⟨⟨hi, hk⟩, h⟩ := chk_some h
  exact r_K C hK hX hb hP hS hl hi (kS_charAt hi hk) hlink mo_J0_charAt_5068e wd_523 wd_524 ⟨hf, Nat.le_trans (Nat.le_of_ble_eq_true rfl) hlo⟩ hcs rfl (rest := rest) rfl hW hdg (fun H locs hP hS => kk _ H locs h hP hS)
end STRG2
