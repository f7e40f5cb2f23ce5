/-! ===== LEVEL 2: the checksum, both sides ===== -/
noncomputable def ndL (A : At) (K : Kt) (W : Wt) (f : Nat → Nat → Int32) (j : Nat) : List Int32 := [nI j] ++ ((List.range 15).map (f j) ++ jns [] (phraseW A K W j))
theorem l15_get {f : Nat → Int32} {q : Nat} (h : q < ((List.range 15).map f).length) : ((List.range 15).map f)[q] = f q := by simp
theorem l15_len {f : Nat → Int32} : ((List.range 15).map f).length = 15 := by simp
noncomputable def tailH (A : At) (K : Kt) (Q : List QI) (sp : List Int32) (fo : Int32) (bl rl : Nat) (h : Int64) : Int64 := hx (hx (hx (hx (hx (hx h [focV A fo, trapV A]) ((ordL A K).map nI)) [nI Q.length]) (Q.flatMap qiL)) sp) [nI bl, nI rl]
section SUM2
variable {Sh : Sp} {M M' N N' : Mm} {B μ c n : Nat} {z : Sc} {rs : List Sc} {buf : List Int32} {A : At} {K : Kt} {W : Wt} {Q : List QI} {sp : List Int32} {fo rd la : Int32} {f : Nat → Nat → Int32}
theorem c_mixNode (h : CX Sh M B (A, K, W, Q, sp, fo, rd, la) rs buf) (hS : SI c A K W Q fo rd la) (hn : 20000 < n) (hf : ∀ j q, live A j → q < 15 → ∀ M t, CT Sh M t A K W → fX4_about n Sh M t (nI j) (nI q) = some (f j q)) {j : Nat} (hj : live A j) (h0 : Int64) : ∃ M', fX6_mixNode n Sh M B h0 (nI j) = some (hx h0 (ndL A K W f j), M') ∧ CX Sh M' B (A, K, W, Q, sp, fo, rd, la) rs buf ∧ AgI (fun a => a = B + 145 ∨ a = B + 145 + 1) M M' := by
  have hW := hS.1
  have hA := hS.2.1
  have hle := phrase_le hW hA hj
  obtain ⟨l, hw⟩ := h.2.2.2.2.2
  obtain ⟨M1, e1, r1, f1⟩ := w_empty (n := n) hw
  have f1' : AgI (fun a => a = B + 145 ∨ a = B + 145 + 1) M M1 := f1.mono (fun a z => Or.inl z)
  have k1 := h.scr f1' r1
  obtain ⟨M2, e2, r2, f2⟩ := c_phrase (n := n) (cap := 256) hW hA (by omega) (by decide) (show B + 1 + 1 + 109 ≤ B + 145 ∨ B + 145 + 2 ≤ B + 1 + 1 by omega) k1.ct r1 hj (by omega)
  have k2 := k1.scr f2 r2
  refine ⟨M2, ?_, k2, f1'.tr f2⟩
  unfold fX6_mixNode fX6_mixNode_11 ndL
  rw [hx_app, hx_app]
  show iter n _ (hx h0 [nI j], 0) = _
  generalize hx h0 [nI j] = h1
  have e45 : fX6_mixNode_45 n Sh B h0 (nI j) M (hx h1 ((List.range 15).map (f j))) = some (hx (hx h1 ((List.range 15).map (f j))) (jns [] (phraseW A K W j)), M2) := by
    unfold fX6_mixNode_45
    rw [tF_of h.1.2.1.2.2.2.2.2.1, chk_pos hw.1, bind_of e1, tF_of k1.1.2.1.1, gF_of k1.cs.1.1 k1.cs.1.2.1, tF_of k1.1.2.1.2.2.2.2.2.1, chk_pos k1.ct.1.1, bind_of e2, tF_of k2.1.2.1.2.2.2.2.2.1, bind_of (c_mixWords r2 (by decide) (by omega) _)]
  refine iter_seq (N := 15) (fun q => (hx h1 (((List.range 15).map (f j)).take q), nI q)) (fun q hq => ?_) ?_ (by omega) rfl
  · unfold fX6_mixNode_11b fX6_mix
    dsimp only
    rw [if_pos (show nI q < 15 from (nI_ltI (b := 15) (by omega) (by decide)).mpr hq), tF_of h.1.2.1.1, gF_of h.cs.1.1 h.cs.1.2.1, chk_pos h.ct.1.1, bind_of (hf j q hj hq M _ h.ct), bindS, hx_s (show q < ((List.range 15).map (f j)).length by rw [l15_len]; exact hq), l15_get, nI_add1]
  · unfold fX6_mixNode_11b
    dsimp only
    rw [if_neg (show ¬ nI 15 < 15 by decide), List.take_of_length_le (by rw [l15_len]; exact Nat.le_refl _), e45]
    rfl
theorem c_129 (h : CX Sh M B (A, K, W, Q, sp, fo, rd, la) rs buf) (hn : 20000 < n) (v : Int64) : fX6_checksum_129 n Sh B M v = some (hx (hx (hx (hx v [nI Q.length]) (Q.flatMap qiL)) sp) [nI buf.length, nI rs.length], M) := by
  have hw := h.cs.2.2.2.2.1
  have hl := hw.2.2.2.2.1
  unfold fX6_checksum_129 fX6_mix
  rw [bind_of (c_mixQueue h hn v), tF_of h.1.2.1.1, gF_of h.cs.1.1 h.cs.1.2.2.2, bind_of (c_mixWords hw (by decide) (by omega) _), tF_of h.1.2.1.2.2.2.2.1, gI_of h.2.2.2.2.1.1, h.2.2.2.2.1.2.2.2.1, bindS, tI_of, h.2.2.1.1]
  rfl
theorem c_65 (h : CX Sh M B (A, K, W, Q, sp, fo, rd, la) rs buf) (hS : SI c A K W Q fo rd la) (hn : 20000 < n) (v : Int64) : ∃ M', fX6_checksum_65 n Sh B M v = some (tailH A K Q sp fo buf.length rs.length v, M') ∧ CX Sh M' B (A, K, W, Q, sp, fo, rd, la) rs buf ∧ Ag (CR B) M M' := by
  have hW := hS.1
  have hlen := ordL_len (A := A) hW
  obtain ⟨M1, e1, r1, k1, f1⟩ := x_fill (n := n) h hW hS.2.2.1 hn
  refine ⟨M1, ?_, k1, (f1.mono (fun a z => by unfold CR; omega)).toAg⟩
  unfold fX6_checksum_65 fX6_mix
  have et : fX6_trap n Sh M B = some (trapV A) := by
    unfold fX6_trap
    rw [tF_of h.1.2.1.1, gF_of h.cs.1.1 h.cs.1.2.1, chk_pos h.ct.1.1, bind_of (c_topDialog h.ct hW hS.2.2.1 (by omega))]
  rw [tF_of h.1.2.1.2.1, chk_pos h.rng.1, bind_of (x_foc h hW hS.2.2.1 hn hS.2.2.2.2.1), bindS, bind_of et, bindS, tF_of h.1.2.1.2.1, chk_pos h.rng.1, bind_of e1]
  unfold tailH
  show fX6_checksum_96 n Sh B M1 (hx v [focV A fo, trapV A]) 0 = _
  generalize hx v [focV A fo, trapV A] = h1
  unfold fX6_checksum_96
  refine iter_seq (N := (ordL A K).length) (fun k => (hx h1 (((ordL A K).map nI).take k), nI k)) (fun k hk => ?_) ?_ (by omega) rfl
  · unfold fX6_checksum_96b fX6_mix
    dsimp only
    rw [tF_of k1.1.2.1.2.1, gI_of k1.rng.1, r1.1, if_pos ((nI_ltI (by omega) (by omega)).mpr hk), tF_of k1.1.2.1.2.1, chk_pos k1.rng.1, bind_of (c_at k1.rng r1 hlen _), kAt_nI (by omega), List.getElem?_eq_getElem hk, bindS, hx_s (show k < ((ordL A K).map nI).length by rw [List.length_map]; exact hk), List.getElem_map, nI_add1]
    rfl
  · unfold fX6_checksum_96b
    dsimp only
    rw [tF_of k1.1.2.1.2.1, gI_of k1.rng.1, r1.1, if_neg (fun y => Nat.lt_irrefl _ ((nI_ltI (by omega) (by omega)).mp y)), List.take_of_length_le (by rw [List.length_map]; exact Nat.le_refl _), c_129 k1 hn]
    rfl
theorem c_checksum (h : CX Sh M B (A, K, W, Q, sp, fo, rd, la) rs buf) (hS : SI c A K W Q fo rd la) (hn : 20000 < n) (hf : ∀ j q, live A j → q < 15 → ∀ M t, CT Sh M t A K W → fX4_about n Sh M t (nI j) (nI q) = some (f j q)) : ∃ M', fX6_checksum n Sh M B = some (tailH A K Q sp fo buf.length rs.length (hx (hx 18379 [mk (live A)]) ((pre K 0).flatMap (ndL A K W f))), M') ∧ CX Sh M' B (A, K, W, Q, sp, fo, rd, la) rs buf ∧ Ag (CR B) M M' := by
  have hW := hS.1
  have hlen := pre_len hW hW.root
  have en : fX6_nodes n Sh M B = some (mk (live A)) := by
    have e := c_maskFrom (n := n) h.ct hW (by omega) (top := 0) (by decide)
    rw [below_root hW] at e
    unfold fX6_nodes
    rw [tF_of h.1.2.1.1, gF_of h.cs.1.1 h.cs.1.2.1, chk_pos h.ct.1.1, show fX4_maskFrom n Sh M (B + 1 + 1) 0 = some (mk (live A)) from e]
    rfl
  obtain ⟨M1, e1, r1, f1⟩ := c_writeOrder (n := n) (w := B + 147) hW (by omega) h.1.2.2.2.2.2 (Or.inl (by omega)) h.ct
  have k1 : CX Sh M1 B (A, K, W, Q, sp, fo, rd, la) rs buf := by
    obtain ⟨l, hw⟩ := h.2.2.2.2.2
    exact h.now (FX.ig f1 (fun a z => by unfold NWr; omega)) (h.2.1.agg f1.toAg (fun a x y => by omega)) ⟨l, hw.ag f1 (by omega) (by omega)⟩
  unfold fX6_checksum fX6_mix
  rw [bind_of en, bindS, tF_of h.1.2.1.1, gF_of h.cs.1.1 h.cs.1.2.1, tF_of h.1.2.1.2.2.2.2.2.2, chk_pos h.ct.1.1, bind_of e1]
  show ∃ M', fX6_checksum_30 n Sh B M1 (nI (pre K 0).length) (hx 18379 [mk (live A)]) 0 = _ ∧ _
  generalize hx 18379 [mk (live A)] = h1
  unfold fX6_checksum_30
  obtain ⟨r, er, ⟨M', e', k', f'⟩⟩ := iter_inv (f := fun s : Int64 × Int32 × Mm => fX6_checksum_30b n Sh B s.2.2 (nI (pre K 0).length) s.1 s.2.1) (pre K 0).length (fun k s => s.1 = hx h1 (((pre K 0).take k).flatMap (ndL A K W f)) ∧ s.2.1 = nI k ∧ CX Sh s.2.2 B (A, K, W, Q, sp, fo, rd, la) rs buf ∧ LW s.2.2 (B + 147) (pre K 0) ∧ Ag (CR B) M s.2.2) (fun r => ∃ M', r = (tailH A K Q sp fo buf.length rs.length (hx h1 ((pre K 0).flatMap (ndL A K W f))), M') ∧ CX Sh M' B (A, K, W, Q, sp, fo, rd, la) rs buf ∧ Ag (CR B) M M') (fun k s hk hI => by
    obtain ⟨h2, v, M2⟩ := s
    obtain ⟨rfl, rfl, k2, w2, f2⟩ := hI
    dsimp only at k2 w2 f2 ⊢
    unfold fX6_checksum_30b
    by_cases ck : k < (pre K 0).length
    · have hx' := pre_live hW 0 hW.root _ (List.getElem_mem ck)
      rw [if_pos ((nI_ltI (by omega) (by omega)).mpr ck), tF_of k2.1.2.1.2.2.2.2.2.2, aN_of k2.1.2.2.2.2.2, if_pos ((nI_ltI (by omega) (by decide)).mpr (by omega)), tF_of k2.1.2.1.2.2.2.2.2.2, aI_nI k2.1.2.2.2.2.2 (by omega) (by decide), w2.get ck]
      obtain ⟨M3, e3, k3, f3⟩ := c_mixNode (n := n) k2 hS hn hf hx' (hx h1 (((pre K 0).take k).flatMap (ndL A K W f)))
      rw [bind_of e3]
      refine Or.inl ⟨ck, _, rfl, ?_, nI_add1 k, k3, w2.ag f3 (by omega), f2.tr (f3.mono (T := CR B) (fun a z => by unfold CR; omega)).toAg⟩
      rw [flat_s ck, hx_app]
    · rw [if_neg (fun y => ck ((nI_ltI (by omega) (by omega)).mp y))]
      obtain ⟨M3, e3, k3, f3⟩ := c_65 (n := n) k2 hS hn (hx h1 (((pre K 0).take k).flatMap (ndL A K W f)))
      rw [e3]
      exact Or.inr ⟨_, rfl, M3, by rw [List.take_of_length_le (by omega)], k3, f2.tr f3⟩) (show (pre K 0).length < n by omega) (s := (h1, 0, M1)) ⟨rfl, rfl, k1, r1, (f1.mono (T := CR B) (fun a z => by unfold CR; omega)).toAg⟩
  exact ⟨M', by rw [er, e'], k', f'⟩
-- the reference
theorem m_141 (h : MX Sh N μ (A, K, W, Q, sp, fo, rd, la) rs buf) (hn : 20000 < n) : ∃ N', fX7_checksum_141 n Sh μ N 0 = some (hx (hx (N.2.2 μ 11) sp) [nI buf.length, nI rs.length], N') ∧ MX Sh N' μ (A, K, W, Q, sp, fo, rd, la) rs buf ∧ FM μ N N' := by
  have hs := h.ms
  have hl := hs.2.2.2.1
  unfold fX7_checksum_141
  refine ⟨uL N μ 11 (hx (hx (N.2.2 μ 11) sp) [nI buf.length, nI rs.length]), m_loop (μ := μ) (l := sp) (fun k hk h1 => ?_) ?_ (by omega), h.l _, FM.l⟩
  · have hL' : ML Sh (uL N μ 11 h1).2.1 μ := h.1
    have v1 : (uL N μ 11 h1).1 (μ + 1) 3161 = nI sp.length := hs.2.2.1
    have v2 : (uL N μ 11 h1).1 (μ + 1) (3162 + k) = sp.getD k 0 := hs.2.2.2.2.1 k hk
    unfold fX7_checksum_141b
    dsimp only
    rw [show (3161 : Int32) = nI 3161 from rfl, m_at hL' (by decide), v1, if_pos ((nI_ltI (by omega) (by omega)).mpr hk), show (3162 : Int32) + nI k = nI (3162 + k) from nI_addm 3162 k, m_at hL' (by omega), v2, m_mix, bindS, uL_same, uL_uL, nI_add1, List.getD_eq_getElem?_getD, List.getElem?_eq_getElem hk]
    rfl
  · have hL' : ML Sh (uL N μ 11 (hx (N.2.2 μ 11) sp)).2.1 μ := h.1
    have v1 : (uL N μ 11 (hx (N.2.2 μ 11) sp)).1 (μ + 1) 3161 = nI sp.length := hs.2.2.1
    have v4 : ∀ g, (uL N μ 11 g).1 μ 4 = nI buf.length := fun _ => h.2.2.2.1
    have v5 : ∀ g, (uL N μ 11 g).1 μ 2 = nI rs.length := fun _ => h.2.2.1.1
    unfold fX7_checksum_141b fX7_checksum_174
    dsimp only
    rw [show (3161 : Int32) = nI 3161 from rfl, m_at hL' (by decide), v1, if_neg (fun y => Nat.lt_irrefl _ ((nI_ltI (by omega) (by omega)).mp y)), tI_of, v4, m_mix, bindS, uL_same, uL_uL, tI_of, v5, m_mix, bindS, uL_same, uL_uL, tL_of, uL_same]
    rfl
theorem qi_len (x : QI) : (qiL x).length = 4 + x.2.2.2.length := by
  unfold qiL
  rw [List.length_append]
  rfl
theorem qi_get {x : QI} {m : Nat} (h : m < x.2.2.2.length) (h2 : 4 + m < (qiL x).length) : (qiL x)[4 + m] = x.2.2.2.getD m 0 := by
  have e : (qiL x)[4 + m]? = some (x.2.2.2.getD m 0) := by
    unfold qiL
    rw [List.getElem?_append_right (by simp), List.getD_eq_getElem?_getD, List.getElem?_eq_getElem h]
    simp [List.getElem?_eq_getElem h]
  rw [List.getElem?_eq_getElem h2] at e
  exact Option.some.inj e
theorem m_80 (h : MX Sh N μ (A, K, W, Q, sp, fo, rd, la) rs buf) (hn : 20000 < n) : ∃ N', fX7_checksum_80 n Sh μ N 0 = some (hx (hx (hx (N.2.2 μ 11) (Q.flatMap qiL)) sp) [nI buf.length, nI rs.length], N') ∧ MX Sh N' μ (A, K, W, Q, sp, fo, rd, la) rs buf ∧ FM μ N N' := by
  have hq := h.ms.2.1
  have h10 := hq.2.1
  obtain ⟨N9, e9, k9, f9⟩ := m_141 (n := n) (h.l (hx (N.2.2 μ 11) (Q.flatMap qiL))) hn
  rw [uL_same] at e9
  unfold fX7_checksum_80
  refine ⟨N9, iter_seq (N := Q.length) (fun k => (nI k, uL N μ 11 (hx (N.2.2 μ 11) ((Q.take k).flatMap qiL)))) (fun k hk => ?_) ?_ (by omega) (by show (nI 0, N) = (nI 0, uL N μ 11 (N.2.2 μ 11)); rw [uL_self]), k9, FM.l.tr f9⟩
  · have hx' : Q[k]? = some Q[k] := List.getElem?_eq_getElem hk
    rw [flat_s hk, hx_app]
    generalize hx (N.2.2 μ 11) ((Q.take k).flatMap qiL) = h1
    generalize Q[k] = x at *
    obtain ⟨r1, r2, r3, r4, r5, r6⟩ := hq.2.2 k x hx'
    have hL' : ∀ g, ML Sh (uL N μ 11 g).2.1 μ := fun _ => h.1
    have v0 : (uL N μ 11 h1).1 (μ + 1) 720 = nI Q.length := hq.1
    have v4 : ∀ g, (uL N μ 11 g).1 (μ + 1) (721 + 244 * k + 3) = nI x.2.2.2.length := fun _ => r4
    have vi : ∀ g i (hi : i < (qiL x).length), (uL N μ 11 g).1 (μ + 1) (721 + 244 * k + i) = (qiL x)[i] := fun g i hi => by
      show N.1 (μ + 1) (721 + 244 * k + i) = _
      rw [qi_len] at hi
      by_cases c4 : i < 4
      · rcases (by omega : i = 0 ∨ i = 1 ∨ i = 2 ∨ i = 3) with e | e | e | e <;> subst e
        · exact r1
        · exact r2
        · exact r3
        · exact r4
      · obtain ⟨m, rfl⟩ : ∃ m, i = 4 + m := ⟨i - 4, by omega⟩
        rw [r6 m (by omega)]
        exact (qi_get (by omega) (by rw [qi_len]; exact hi)).symm
    have hlq := qi_len x
    unfold fX7_checksum_80b fX7_checksum_94
    dsimp only
    rw [m_at720 (hL' h1), v0, if_pos ((nI_ltI (by omega) (by omega)).mpr hk)]
    have key : iter n (fun s : Int32 × Mm => fX7_checksum_94b n Sh μ s.2 (nI k) s.1) (0, uL N μ 11 h1) = some (Sum.inl (nI (k + 1), uL (uL N μ 11 h1) μ 11 (hx ((uL N μ 11 h1).2.2 μ 11) (qiL x)))) := by
      refine m_loop (μ := μ) (l := qiL x) (fun i hi h2 => ?_) ?_ (by omega)
      · rw [uL_uL]
        unfold fX7_checksum_94b
        dsimp only
        rw [tF_of (hL' h2).2.1.1, m_st, bindS, show nI (721 + 244 * k) + 3 = nI (721 + 244 * k + 3) from nI_addm _ 3, aI_nI (hL' h2).2.2.1 (by omega) (by decide), v4, show (4 : Int32) + nI x.2.2.2.length = nI (4 + x.2.2.2.length) from nI_addm 4 _, if_pos ((nI_ltI (by omega) (by omega)).mpr (by omega)), tF_of (hL' h2).2.1.1, bindS, nI_addm, aI_nI (hL' h2).2.2.1 (by omega) (by decide), vi h2 i hi, m_mix, bindS, uL_same, uL_uL, uL_uL, nI_add1]
      · rw [uL_uL, uL_same]
        unfold fX7_checksum_94b fX7_checksum_133
        dsimp only
        rw [tF_of (hL' _).2.1.1, m_st, bindS, show nI (721 + 244 * k) + 3 = nI (721 + 244 * k + 3) from nI_addm _ 3, aI_nI (hL' (hx h1 (qiL x))).2.2.1 (by omega) (by decide), v4, show (4 : Int32) + nI x.2.2.2.length = nI (4 + x.2.2.2.length) from nI_addm 4 _, hlq, if_neg (fun y => Nat.lt_irrefl _ ((nI_ltI (by omega) (by omega)).mp y)), nI_add1]
        rfl
    rw [key, uL_uL, uL_same]
  · have v0 : (uL N μ 11 (hx (N.2.2 μ 11) ((Q.take Q.length).flatMap qiL))).1 (μ + 1) 720 = nI Q.length := hq.1
    have hL' : ML Sh (uL N μ 11 (hx (N.2.2 μ 11) ((Q.take Q.length).flatMap qiL))).2.1 μ := h.1
    unfold fX7_checksum_80b fX7_checksum_139
    dsimp only
    rw [m_at720 hL', v0, if_neg (fun y => Nat.lt_irrefl _ ((nI_ltI (by omega) (by omega)).mp y)), List.take_length, e9]
    rfl
theorem m_40 (h : MX Sh N μ (A, K, W, Q, sp, fo, rd, la) rs buf) (hO : MO N μ (ordL A K)) (hlen : (ordL A K).length ≤ 24) (hn : 20000 < n) : ∃ N', fX7_checksum_40 n Sh μ N 0 = some (hx (hx (hx (hx (hx (N.2.2 μ 11) ((ordL A K).map nI)) [nI Q.length]) (Q.flatMap qiL)) sp) [nI buf.length, nI rs.length], N') ∧ MX Sh N' μ (A, K, W, Q, sp, fo, rd, la) rs buf ∧ FM μ N N' := by
  have hq := h.ms.2.1
  obtain ⟨N9, e9, k9, f9⟩ := m_80 (n := n) (h.l (hx (hx (N.2.2 μ 11) ((ordL A K).map nI)) [nI Q.length])) hn
  rw [uL_same] at e9
  unfold fX7_checksum_40
  refine ⟨N9, m_loop (μ := μ) (l := (ordL A K).map nI) (fun k hk h1 => ?_) ?_ (by rw [List.length_map]; omega), k9, FM.l.tr f9⟩
  · rw [List.length_map] at hk
    have hL' : ML Sh (uL N μ 11 h1).2.1 μ := h.1
    have v1 : (uL N μ 11 h1).1 μ 10 = nI (ordL A K).length := hO.1
    have v2 : (uL N μ 11 h1).1 (μ + 6) k = nI (ordL A K)[k] := hO.2.get hk
    unfold fX7_checksum_40b
    dsimp only
    rw [tI_of, v1, if_pos ((nI_ltI (by omega) (by omega)).mpr hk), tF_of hL'.2.1.2.2.2.2.2, aI_nI hL'.2.2.2.2.2.2.2 (by omega) (by decide), v2, m_mix, bindS, uL_same, uL_uL, nI_add1, List.getElem_map]
  · have hL' : ML Sh (uL N μ 11 (hx (N.2.2 μ 11) ((ordL A K).map nI))).2.1 μ := h.1
    have v1 : (uL N μ 11 (hx (N.2.2 μ 11) ((ordL A K).map nI))).1 μ 10 = nI (ordL A K).length := hO.1
    have v0 : (uL N μ 11 (hx (N.2.2 μ 11) ((ordL A K).map nI))).1 (μ + 1) 720 = nI Q.length := hq.1
    unfold fX7_checksum_40b fX7_checksum_65
    dsimp only
    rw [tI_of, v1, List.length_map, if_neg (fun y => Nat.lt_irrefl _ ((nI_ltI (by omega) (by omega)).mp y)), m_at720 hL', v0, m_mix, bindS, uL_same, uL_uL]
    show Option.map Sum.inr (fX7_checksum_80 n Sh μ (uL N μ 11 (hx (hx (N.2.2 μ 11) ((ordL A K).map nI)) [nI Q.length])) 0) = _
    rw [e9]
    rfl
theorem m_node (h : MX Sh N μ (A, K, W, Q, sp, fo, rd, la) rs buf) (hS : SI c A K W Q fo rd la) (hn : 20000 < n) (hf : ∀ j q, live A j → q < 15 → ∀ M μ, ML Sh M.2.1 μ → MP (M.1 (μ + 1)) A K W → fX7_infoOf n Sh M μ (nI j) (nI q) = some (f j q)) {k : Nat} (hk : k < (pre K 0).length) : ∃ N', fX7_mixNodes_35b n Sh μ N (nI (pre K 0)[k]) = some (.inl (oi (pre K 0)[k + 1]?, N')) ∧ MX Sh N' μ (A, K, W, Q, sp, fo, rd, la) rs buf ∧ FM μ N N' ∧ N'.2.2 μ 11 = hx (N.2.2 μ 11) (ndL A K W f (pre K 0)[k]) := by
  have hW := hS.1
  have hj := pre_live hW 0 hW.root _ (List.getElem_mem hk)
  have hfol : ∀ X : Mm, ML Sh X.2.1 μ → MP (X.1 (μ + 1)) A K W → fX7_following n Sh X μ (nI (pre K 0)[k]) 0 = some (oi (pre K 0)[k + 1]?) := fun X h1 h2 => m_follow_pre h1 h2 hW (by omega) hk
  generalize (pre K 0)[k] = j at *
  have hle := phrase_le hW hS.2.1 hj
  have k1 := h.l (hx (N.2.2 μ 11) ([nI j] ++ (List.range 15).map (f j)))
  obtain ⟨N2, e2, r2, w2⟩ := m_lay (n := n) k1.1 k1.mp hW hS.2.1 (by omega) hj 3 (by have := kind_le hW hS.2.1 hj 3; omega)
  have hk3 : kindW A K W j 3 = phraseW A K W j := by unfold kindW; rw [if_neg (by decide), if_neg (by decide), if_neg (by decide), if_pos rfl]
  rw [hk3] at r2
  have k2 := k1.ws w2
  have hh2 : N2.2.2 μ 11 = hx (N.2.2 μ 11) ([nI j] ++ (List.range 15).map (f j)) := by rw [w2.1]; exact uL_same
  have e79 : fX7_mixNodes_79 n Sh μ N2 (nI j) 0 = some (Sum.inl (oi (pre K 0)[k + 1]?, uL N2 μ 11 (hx (N2.2.2 μ 11) (jns [] (phraseW A K W j))))) := by
    unfold fX7_mixNodes_79
    refine m_loop (μ := μ) (l := jns [] (phraseW A K W j)) (fun q hq h1 => ?_) ?_ (by omega)
    · have hL' : ML Sh (uL N2 μ 11 h1).2.1 μ := k2.1
      have v1 : (uL N2 μ 11 h1).1 μ 7 = nI (jns [] (phraseW A K W j)).length := r2.1
      have v2 : (uL N2 μ 11 h1).1 (μ + 4) q = (jns [] (phraseW A K W j)).getD q 0 := r2.2.2 q hq
      unfold fX7_mixNodes_79b
      dsimp only
      rw [tI_of, v1, if_pos ((nI_ltI (by omega) (by omega)).mpr hq), tF_of hL'.2.1.2.2.2.1, aI_nI hL'.2.2.2.2.2.1 (by omega) (by decide), v2, m_mix, bindS, uL_same, uL_uL, nI_add1, List.getD_eq_getElem?_getD, List.getElem?_eq_getElem hq]
      rfl
    · have v1 : (uL N2 μ 11 (hx (N2.2.2 μ 11) (jns [] (phraseW A K W j)))).1 μ 7 = nI (jns [] (phraseW A K W j)).length := r2.1
      unfold fX7_mixNodes_79b fX7_mixNodes_104
      dsimp only
      rw [tI_of, v1, if_neg (fun y => Nat.lt_irrefl _ ((nI_ltI (by omega) (by omega)).mp y)), bind_of (hfol (uL N2 μ 11 (hx (N2.2.2 μ 11) (jns [] (phraseW A K W j)))) k2.1 k2.mp)]
      rfl
  refine ⟨uL N2 μ 11 (hx (N2.2.2 μ 11) (jns [] (phraseW A K W j))), ?_, k2.l _, (FM.l.tr w2.mc.fm).tr FM.l, ?_⟩
  · unfold fX7_mixNodes_35b fX7_mixNodes_48
    rw [if_neg (nI_ne_neg hj.lt), m_mix, bindS]
    show iter n _ (0, uL N μ 11 (hx (N.2.2 μ 11) [nI j])) = _
    refine m_loop (μ := μ) (l := (List.range 15).map (f j)) (fun q hq h1 => ?_) ?_ (by rw [l15_len]; omega)
    · have hq' : q < 15 := by rw [l15_len] at hq; exact hq
      rw [uL_uL, l15_get]
      unfold fX7_mixNodes_48b
      dsimp only
      rw [if_pos (show nI q < 15 from (nI_ltI (b := 15) (by omega) (by decide)).mpr hq'), bind_of (hf j q hj hq' (uL N μ 11 h1) μ h.1 h.mp), m_mix, bindS, uL_same, uL_uL, uL_uL, nI_add1]
    · rw [uL_uL, uL_same, ← hx_app, l15_len]
      unfold fX7_mixNodes_48b fX7_mixNodes_71
      dsimp only
      rw [if_neg (show ¬ nI 15 < 15 by decide), bind_of e2, e79]
      rfl
  · rw [uL_same, hh2, ← hx_app]
    unfold ndL
    rw [List.append_assoc]
theorem m_checksum (h : MX Sh N μ (A, K, W, Q, sp, fo, rd, la) rs buf) (hS : SI c A K W Q fo rd la) (hn : 20000 < n) (hf : ∀ j q, live A j → q < 15 → ∀ M μ, ML Sh M.2.1 μ → MP (M.1 (μ + 1)) A K W → fX7_infoOf n Sh M μ (nI j) (nI q) = some (f j q)) : ∃ N', fX7_checksum n Sh N μ = some (tailH A K Q sp fo buf.length rs.length (hx (hx 18379 [mk (live A)]) ((pre K 0).flatMap (ndL A K W f))), N') ∧ MX Sh N' μ (A, K, W, Q, sp, fo, rd, la) rs buf ∧ FM μ N N' := by
  have hW := hS.1
  have hlen := pre_len hW hW.root
  have hlo := ordL_len (A := A) hW
  have k0 : MX Sh (uL (uI N μ 5 0) μ 11 18379) μ (A, K, W, Q, sp, fo, rd, la) rs buf := (h.c5 0).l _
  have f0 : FM μ N (uL (uI N μ 5 0) μ 11 18379) := (FM.u (by omega)).tr FM.l
  have hh0 : (uL (uI N μ 5 0) μ 11 18379).2.2 μ 11 = 18379 := uL_same
  unfold fX7_checksum
  rw [qI_of]
  show ∃ N', ((fX7_mixNodes n Sh (uL (uI N μ 5 0) μ 11 18379) μ).bind _) = _ ∧ _
  generalize uL (uI N μ 5 0) μ 11 18379 = N0 at *
  -- the nodes
  have e35 : ∃ N1, fX7_mixNodes_35 n Sh μ (uL N0 μ 11 (hx 18379 [mk (live A)])) 0 = some N1 ∧ MX Sh N1 μ (A, K, W, Q, sp, fo, rd, la) rs buf ∧ FM μ N0 N1 ∧ N1.2.2 μ 11 = hx (hx 18379 [mk (live A)]) ((pre K 0).flatMap (ndL A K W f)) := by
    unfold fX7_mixNodes_35
    generalize hx 18379 [mk (live A)] = h1
    obtain ⟨r, er, qq⟩ := iter_inv (f := fun s : Int32 × Mm => fX7_mixNodes_35b n Sh μ s.2 s.1) (pre K 0).length (fun k s => s.1 = oi (pre K 0)[k]? ∧ MX Sh s.2 μ (A, K, W, Q, sp, fo, rd, la) rs buf ∧ FM μ N0 s.2 ∧ s.2.2.2 μ 11 = hx h1 (((pre K 0).take k).flatMap (ndL A K W f))) (fun r => MX Sh r μ (A, K, W, Q, sp, fo, rd, la) rs buf ∧ FM μ N0 r ∧ r.2.2 μ 11 = hx h1 ((pre K 0).flatMap (ndL A K W f))) (fun k s hk hI => by
      obtain ⟨v, X⟩ := s
      obtain ⟨rfl, kx, fx, hx'⟩ := hI
      dsimp only at kx fx hx' ⊢
      by_cases ck : k < (pre K 0).length
      · obtain ⟨N2, e2, k2, f2, h2⟩ := m_node (n := n) kx hS hn hf ck
        rw [List.getElem?_eq_getElem ck]
        refine Or.inl ⟨ck, _, e2, rfl, k2, fx.tr f2, ?_⟩
        rw [h2, hx', flat_s ck, hx_app]
      · rw [List.getElem?_eq_none_iff.mpr (by omega)]
        refine Or.inr ⟨X, ?_, kx, fx, ?_⟩
        · unfold fX7_mixNodes_35b
          rw [if_pos (show oi none = -1 from rfl)]
        · rw [hx', List.take_of_length_le (by omega)]) (show (pre K 0).length < n by omega) (s := (0, uL N0 μ 11 h1)) ⟨by obtain ⟨xs, e⟩ := pre_0 hW; rw [e]; rfl, k0.l _, FM.l, uL_same⟩
    exact ⟨r, er, qq⟩
  obtain ⟨N1, e1, k1, f1, h1⟩ := e35
  have em : fX7_mixNodes n Sh N0 μ = some N1 := by
    unfold fX7_mixNodes fX7_mixNodes_4
    refine iter_seq (N := 24) (fun j => (nI (mkN (live A) j), nI j)) (fun j hj => ?_) ?_ (by omega) rfl
    · unfold fX7_mixNodes_4b
      dsimp only
      rw [if_pos (lt24 hj), bind_of (mo0 k0.1 k0.mp hj), nI_add1]
      have e : mkN (live A) (j + 1) = 2 ^ j * cN (live A j) + mkN (live A) j := rfl
      rw [e]
      by_cases hl : live A j
      · rw [bI_pos hl, mk_step _ hj, cN_pos hl]
      · rw [bI_neg hl, nI_zpow hj, cN_neg hl, Nat.mul_zero, Nat.zero_add, Int32.or_zero]
    · unfold fX7_mixNodes_4b fX7_mixNodes_27
      dsimp only
      rw [if_neg (show ¬ nI 24 < 24 by decide), m_mix, bindS, hh0]
      show Option.map Sum.inr (fX7_mixNodes_35 n Sh μ (uL N0 μ 11 (hx 18379 [mk (live A)])) 0) = _
      rw [e1]
      rfl
  rw [bind_of em, bind_of (m_foc k1 hW hS.2.2.1 hn hS.2.2.2.2.1), m_mix, bindS]
  have k1' := k1.l ((31 : Int64) * N1.2.2 μ 11 + Int32.toInt64 (focV A fo))
  rw [bind_of (m_trapNow k1'.1 k1'.mp hW hS.2.2.1 (by omega)), m_mix, bindS, uL_same, uL_uL, h1]
  show ∃ N', ((fX7_layOrder n Sh (uL N1 μ 11 (hx (hx (hx 18379 [mk (live A)]) ((pre K 0).flatMap (ndL A K W f))) [focV A fo, trapV A])) μ).bind _) = _ ∧ _
  have k2 := k1.l (hx (hx (hx 18379 [mk (live A)]) ((pre K 0).flatMap (ndL A K W f))) [focV A fo, trapV A])
  obtain ⟨N3, e3, r3, w3⟩ := m_layOrder (n := n) k2.1 k2.mp hW hS.2.2.1 (by omega)
  have k3 := k2.os w3
  have hh3 : N3.2.2 μ 11 = hx (hx (hx 18379 [mk (live A)]) ((pre K 0).flatMap (ndL A K W f))) [focV A fo, trapV A] := by rw [w3.1]; exact uL_same
  obtain ⟨N4, e4, k4, f4⟩ := m_40 (n := n) k3 r3 hlo hn
  rw [hh3] at e4
  rw [bind_of e3]
  exact ⟨N4, e4, k4, (((f0.tr f1).tr FM.l).tr w3.mc.fm).tr f4⟩
theorem op_checksum {z : Sc} (hI : SIall c z rs) (hn : 20000 < n) : OPL Sh B c z rs buf (fun M => fX6_checksum n Sh M B) (fun N => fX7_checksum n Sh N (B + 833)) := by
  obtain ⟨A, K, W, Q, sp, fo, rd, la⟩ := z
  have hS : SI c A K W Q fo rd la := hI.1
  obtain ⟨f, hf⟩ := inf_fn (n := n) (W := W) Sh hS.1 hS.2.2.1 (by omega)
  refine ⟨tailH A K Q sp fo buf.length rs.length (hx (hx 18379 [mk (live A)]) ((pre K 0).flatMap (ndL A K W f))), (A, K, W, Q, sp, fo, rd, la), rs, buf, fun M hM => ?_, fun N hN => ?_, hI.up⟩
  · exact c_checksum (n := n) hM hS hn (fun j q h1 h2 => (hf j q h1 h2).1)
  · exact m_checksum (n := n) hN hS hn (fun j q h1 h2 => (hf j q h1 h2).2)
end SUM2
