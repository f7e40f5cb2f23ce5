/-! ===== LEVEL 2: the class: scenes are copied ===== -/
theorem cpN {Sh : Sp} {M : Mm} {N src dst : Nat} (h0 : Sh src = some (.inr (0, N))) (h1 : Sh dst = some (.inr (0, N))) (hN : N < 2 ^ 31) (hsd : src ≠ dst) : ∃ M', (∀ X : Mm → Option Mm, aC Sh M 0 src 0 dst 0 (nI N) X = X M') ∧ AgI (fun a => a = dst) M M' ∧ ∀ k, k < N → M'.1 dst k = M.1 src k := by
  refine ⟨wI M dst (va_cpy (M.1 src) (M.1 dst) 0 0 N), fun X => ?_, AgI.wI rfl, fun k hk => by rw [wI_same, getD_cpy hk]⟩
  unfold aC
  rw [chk_pos ⟨N, N, h0, h1, by decide, by decide, nI_pos hN, by rw [clamp_nI hN]; show 0 + _ ≤ _; omega, by rw [clamp_nI hN]; show 0 + _ ≤ _; omega⟩, clamp_nI hN]
  rfl
section CCOPY
variable {Sh : Sp} {M M' : Mm} {t u q v σ τ n : Nat} {A A0 : At} {K K0 : Kt} {W W0 : Wt} {Q Q0 : List QI}
theorem c_copyTree (h : CT Sh M t A0 K0 W0) (hu : CT Sh M u A K W) (hn : 24 < n) (ho : t + 109 ≤ u ∨ u + 109 ≤ t) : ∃ M', fX4_copyFrom n Sh M t u = some M' ∧ CT Sh M' t A K W ∧ M'.1 t 9 = M.1 u 9 ∧ AgI (fun a => t ≤ a ∧ a < t + 109) M M' := by
  obtain ⟨T, -, hW0, hN0⟩ := id h
  obtain ⟨U, hC, -, -⟩ := id hu
  have sT := T.2.2.1
  have sU := U.2.2.1
  have rT := T.2.1
  have rU := U.2.1
  unfold fX4_copyFrom
  obtain ⟨M1, e1, f1, c1⟩ := cpN (M := M) sU.1 sT.1 (by decide) (by omega)
  rw [gF_of U.1 rU.1, tF_of rT.1, show aC Sh M 0 (u + 1) 0 (t + 1) 0 24 = aC Sh M 0 (u + 1) 0 (t + 1) 0 (nI 24) from rfl, e1]
  obtain ⟨M2, e2, f2, c2⟩ := cpN (M := M1) sU.2.1 sT.2.1 (by decide) (by omega)
  rw [gF_of U.1 (by rw [f1.1]; exact rU.2.1), tF_of (by rw [f1.1]; exact rT.2.1), show aC Sh M1 0 (u + 2) 0 (t + 2) 0 24 = aC Sh M1 0 (u + 2) 0 (t + 2) 0 (nI 24) from rfl, e2]
  have g2 : M2.2 = M.2 := f2.1.trans f1.1
  obtain ⟨M3, e3, f3, c3⟩ := cpN (M := M2) sU.2.2.1 sT.2.2.1 (by decide) (by omega)
  rw [gF_of U.1 (by rw [g2]; exact rU.2.2.1), tF_of (by rw [g2]; exact rT.2.2.1), show aC Sh M2 0 (u + 3) 0 (t + 3) 0 24 = aC Sh M2 0 (u + 3) 0 (t + 3) 0 (nI 24) from rfl, e3]
  have g3 : M3.2 = M.2 := f3.1.trans g2
  obtain ⟨M4, e4, f4, c4⟩ := cpN (M := M3) sU.2.2.2.1 sT.2.2.2.1 (by decide) (by omega)
  rw [gF_of U.1 (by rw [g3]; exact rU.2.2.2.1), tF_of (by rw [g3]; exact rT.2.2.2.1), tF_of (by rw [g3]; exact rT.2.2.2.1), aN_of sT.2.2.2.1, e4]
  have g4 : M4.2 = M.2 := f4.1.trans g3
  obtain ⟨M5, e5, f5, c5⟩ := cpN (M := M4) sU.2.2.2.2.1 sT.2.2.2.2.1 (by decide) (by omega)
  rw [gF_of U.1 (by rw [g4]; exact rU.2.2.2.2.1), tF_of (by rw [g4]; exact rT.2.2.2.2.1), show aC Sh M4 0 (u + 5) 0 (t + 5) 0 24 = aC Sh M4 0 (u + 5) 0 (t + 5) 0 (nI 24) from rfl, e5]
  have g5 : M5.2 = M.2 := f5.1.trans g4
  obtain ⟨M6, e6, f6, c6⟩ := cpN (M := M5) sU.2.2.2.2.2.1 sT.2.2.2.2.2.1 (by decide) (by omega)
  rw [gF_of U.1 (by rw [g5]; exact rU.2.2.2.2.2.1), tF_of (by rw [g5]; exact rT.2.2.2.2.2.1), tF_of (by rw [g5]; exact rT.2.2.2.2.2.1), aN_of sT.2.2.2.2.2.1, e6]
  have g6 : M6.2 = M.2 := f6.1.trans g5
  obtain ⟨M7, e7, f7, c7⟩ := cpN (M := M6) sU.2.2.2.2.2.2.2.2.1 sT.2.2.2.2.2.2.2.2.1 (by decide) (by omega)
  rw [gF_of U.1 (by rw [g6]; exact rU.2.2.2.2.2.2.2.2.1), tF_of (by rw [g6]; exact rT.2.2.2.2.2.2.2.2.1), show aC Sh M6 0 (u + 9) 0 (t + 9) 0 24 = aC Sh M6 0 (u + 9) 0 (t + 9) 0 (nI 24) from rfl, e7]
  have g7 : M7.2 = M.2 := f7.1.trans g6
  obtain ⟨M8, e8, f8, c8⟩ := cpN (M := M7) sU.2.2.2.2.2.2.2.2.2 sT.2.2.2.2.2.2.2.2.2 (by decide) (by omega)
  rw [gF_of U.1 (by rw [g7]; exact rU.2.2.2.2.2.2.2.2.2.1), tF_of (by rw [g7]; exact rT.2.2.2.2.2.2.2.2.2.1), show aC Sh M7 0 (u + 10) 0 (t + 10) 0 24 = aC Sh M7 0 (u + 10) 0 (t + 10) 0 (nI 24) from rfl, e8]
  have g8 : M8.2 = M.2 := f8.1.trans g7
  rw [gI_of U.1]
  simp only [qI_of]
  have o8 : ∀ a, (a < t + 1 ∨ t + 11 ≤ a ∨ a = t + 7 ∨ a = t + 8) → M8.1 a = M.1 a := fun a ha => by
    rw [f8.2 a (by omega), f7.2 a (by omega), f6.2 a (by omega), f5.2 a (by omega), f4.2 a (by omega), f3.2 a (by omega), f2.2 a (by omega), f1.2 a (by omega)]
  have a9 : AgI (fun a => t ≤ a ∧ a ≤ t + 10) M (uI M8 t 9 (M8.1 u 9)) := ⟨g8, fun a ha => by rw [uI_off (by omega), o8 a (by omega)]⟩
  have v9 : (uI M8 t 9 (M8.1 u 9)).1 t 9 = M.1 u 9 := by rw [uI_same, o8 u (by omega)]
  -- what the arrays hold now
  have k1 : ∀ i, i < 24 → M8.1 (t + 1) i = M.1 (u + 1) i := fun i hi => by
    rw [f8.2 _ (by omega), f7.2 _ (by omega), f6.2 _ (by omega), f5.2 _ (by omega), f4.2 _ (by omega), f3.2 _ (by omega), f2.2 _ (by omega), c1 i hi]
  have k2 : ∀ i, i < 24 → M8.1 (t + 2) i = M.1 (u + 2) i := fun i hi => by
    rw [f8.2 _ (by omega), f7.2 _ (by omega), f6.2 _ (by omega), f5.2 _ (by omega), f4.2 _ (by omega), f3.2 _ (by omega), c2 i hi, f1.2 _ (by omega)]
  have k3 : ∀ i, i < 24 → M8.1 (t + 3) i = M.1 (u + 3) i := fun i hi => by
    rw [f8.2 _ (by omega), f7.2 _ (by omega), f6.2 _ (by omega), f5.2 _ (by omega), f4.2 _ (by omega), c3 i hi, f2.2 _ (by omega), f1.2 _ (by omega)]
  have k4 : ∀ i, i < 576 → M8.1 (t + 4) i = M.1 (u + 4) i := fun i hi => by
    rw [f8.2 _ (by omega), f7.2 _ (by omega), f6.2 _ (by omega), f5.2 _ (by omega), c4 i hi, f3.2 _ (by omega), f2.2 _ (by omega), f1.2 _ (by omega)]
  have k5 : ∀ i, i < 24 → M8.1 (t + 5) i = M.1 (u + 5) i := fun i hi => by
    rw [f8.2 _ (by omega), f7.2 _ (by omega), f6.2 _ (by omega), c5 i hi, f4.2 _ (by omega), f3.2 _ (by omega), f2.2 _ (by omega), f1.2 _ (by omega)]
  have k6 : ∀ i, i < 120 → M8.1 (t + 6) i = M.1 (u + 6) i := fun i hi => by
    rw [f8.2 _ (by omega), f7.2 _ (by omega), c6 i hi, f5.2 _ (by omega), f4.2 _ (by omega), f3.2 _ (by omega), f2.2 _ (by omega), f1.2 _ (by omega)]
  have k7 : ∀ i, i < 24 → M8.1 (t + 9) i = M.1 (u + 9) i := fun i hi => by
    rw [f8.2 _ (by omega), c7 i hi, f6.2 _ (by omega), f5.2 _ (by omega), f4.2 _ (by omega), f3.2 _ (by omega), f2.2 _ (by omega), f1.2 _ (by omega)]
  have k8 : ∀ i, i < 24 → M8.1 (t + 10) i = M.1 (u + 10) i := fun i hi => by
    rw [c8 i hi, f7.2 _ (by omega), f6.2 _ (by omega), f5.2 _ (by omega), f4.2 _ (by omega), f3.2 _ (by omega), f2.2 _ (by omega), f1.2 _ (by omega)]
  have hT9 : CT Sh (uI M8 t 9 (M8.1 u 9)) t A K W0 := by
    refine ⟨by rw [a9.1]; exact T, fun i hi => ?_, fun i hi => ⟨(hW0 i hi).1.ag a9 (by omega) (by omega), (hW0 i hi).2.ag a9 (by omega) (by omega)⟩, hN0.ag a9 (by omega) (by omega)⟩
    obtain ⟨q1, q2, q3, q4, q5, q6, q7, q8, q9⟩ := hC i hi
    exact ⟨by rw [uI_off (by omega), k1 i hi]; exact q1, by rw [uI_off (by omega), k2 i hi]; exact q2, by rw [uI_off (by omega), k3 i hi]; exact q3, by rw [uI_off (by omega), k5 i hi]; exact q4, by rw [uI_off (by omega), k7 i hi]; exact q5, by rw [uI_off (by omega), k8 i hi]; exact q6, fun s hs => by rw [uI_off (by omega), k6 _ (by omega)]; exact q7 s hs, q8, fun k hk => by rw [uI_off (by omega), k4 _ (by omega)]; exact q9 k hk⟩
  have hU9 : CT Sh (uI M8 t 9 (M8.1 u 9)) u A K W := hu.ag a9 (fun a x y => by omega)
  generalize uI M8 t 9 (M8.1 u 9) = M9 at *
  unfold fX4_copyFrom_136
  obtain ⟨M', e', r1, r2, r3⟩ := iter_inv (f := fun s : Int32 × Mm => fX4_copyFrom_136b n Sh t u s.2 s.1) 24 (fun j s => s.1 = nI j ∧ CT Sh s.2 t A K (fun i k => if i < j then W i k else W0 i k) ∧ CT Sh s.2 u A K W ∧ AgI (fun a => t + 13 ≤ a ∧ a < t + 109) M9 s.2) (fun M' => CT Sh M' t A K W ∧ M'.1 t 9 = M.1 u 9 ∧ AgI (fun a => t ≤ a ∧ a < t + 109) M M') (fun j s hj hI => by
    obtain ⟨x, N⟩ := s
    obtain ⟨rfl, ht, hu', f⟩ := hI
    dsimp only at ht hu' f ⊢
    unfold fX4_copyFrom_136b
    by_cases h24 : j < 24
    · rw [if_pos (lt24 h24), tF_of ht.1.2.1.2.2.2.2.2.2.1, aR_nI ht.1.2.2.1.2.2.2.2.2.2.1 h24 (by decide) (ht.1.2.2.2 j h24).1, gF_of hu'.1.1 hu'.1.2.1.2.2.2.2.2.2.1, aR_nI hu'.1.2.2.1.2.2.2.2.2.2.1 h24 (by decide) (hu'.1.2.2.2 j h24).1]
      have w1 := c_textW ht h24
      have w2 := c_textW hu' h24
      obtain ⟨N1, x1, y1, z1⟩ := w_become (n := n) w1 w2 (by omega) (by omega) (by omega) w2.2.2.2.2.1 (by decide)
      rw [chk_pos w1.1, bind_of x1]
      have ht1 := ht.word (j := j) (k := 0) (Or.inl ⟨rfl, rfl⟩) y1 z1
      have hu1 : CT Sh N1 u A K W := hu'.ag z1 (fun a x y => by omega)
      rw [tF_of ht1.1.2.1.2.2.2.2.2.2.2.1, aR_nI ht1.1.2.2.1.2.2.2.2.2.2.2.1 h24 (by decide) (ht1.1.2.2.2 j h24).2, gF_of hu1.1.1 hu1.1.2.1.2.2.2.2.2.2.2.1, aR_nI hu1.1.2.2.1.2.2.2.2.2.2.2.1 h24 (by decide) (hu1.1.2.2.2 j h24).2]
      have w3 := c_labelW ht1 h24
      have w4 := c_labelW hu1 h24
      obtain ⟨N2, x2, y2, z2⟩ := w_become (n := n) w3 w4 (by omega) (by omega) (by omega) w4.2.2.2.2.1 (by decide)
      rw [chk_pos w3.1, bind_of x2]
      have ht2 := ht1.word (j := j) (k := 1) (Or.inr ⟨rfl, rfl⟩) y2 z2
      refine Or.inl ⟨h24, _, rfl, nI_add1 j, ht2.cong (fun _ _ _ _ => rfl) (fun _ _ => rfl) (fun i hi => ?_), hu1.ag z2 (fun a x y => by omega), (f.tr (z1.mono (fun a z => by omega))).tr (z2.mono (fun a z => by omega))⟩
      by_cases ij : i = j
      · subst ij
        rw [if_pos (by omega), if_pos (by omega), sW_k (by decide), sW_s, sW_s]
        exact ⟨rfl, rfl⟩
      · rw [sW_i ij, sW_i ij, sW_i ij, sW_i ij]
        by_cases c : i < j
        · rw [if_pos c, if_pos c, if_pos (by omega), if_pos (by omega)]; exact ⟨rfl, rfl⟩
        · rw [if_neg c, if_neg c, if_neg (by omega), if_neg (by omega)]; exact ⟨rfl, rfl⟩
    · have j24 : j = 24 := by omega
      subst j24
      rw [if_neg (show ¬ nI 24 < 24 by decide)]
      refine Or.inr ⟨N, rfl, ht.cong (fun _ _ _ _ => rfl) (fun _ _ => rfl) (fun i hi => by rw [if_pos hi, if_pos hi]; exact ⟨rfl, rfl⟩), by rw [f.2 t (by omega)]; exact v9, (a9.mono (fun a z => by omega)).tr (f.mono (fun a z => by omega))⟩) hn (s := (0, M9)) ⟨rfl, hT9.cong (fun _ _ _ _ => rfl) (fun _ _ => rfl) (fun i hi => ⟨if_neg (Nat.not_lt_zero i), if_neg (Nat.not_lt_zero i)⟩), hU9, AgI.rf⟩
  exact ⟨M', e', r1, r2, r3⟩
theorem q_copy (h : QR Sh M q Q0) (hv : QR Sh M v Q) (hn : 24 < n) (ho : q + 25 ≤ v ∨ v + 25 ≤ q) : ∃ M', fX1_copyFrom n Sh M q v = some M' ∧ QR Sh M' q Q ∧ AgI (fun a => q ≤ a ∧ a < q + 25) M M' := by
  obtain ⟨L, -, -, hw, p, p1, p2, p3, -⟩ := id h
  obtain ⟨L', d1, d2, hw', p', p1', p2', p3', p4'⟩ := id hv
  unfold fX1_copyFrom
  rw [gI_of L'.1]
  simp only [qI_of, d1]
  have b0 : AgI (fun a => a = q) M (uI M q 0 (nI Q.length)) := AgI.uI rfl
  have v0 : (uI M q 0 (nI Q.length)).1 q 0 = nI Q.length := uI_same
  generalize uI M q 0 (nI Q.length) = M0 at *
  obtain ⟨M1, e1, f1, c1⟩ := cpN (M := M0) L'.2.2.1 L.2.2.1 (by decide) (by omega)
  rw [gF_of L'.1 (by rw [b0.1]; exact L'.2.1.1), tF_of (by rw [b0.1]; exact L.2.1.1), show aC Sh M0 0 (v + 1) 0 (q + 1) 0 10 = aC Sh M0 0 (v + 1) 0 (q + 1) 0 (nI 10) from rfl, e1]
  have g1 : M1.2 = M.2 := f1.1.trans b0.1
  obtain ⟨M2, e2, f2, c2⟩ := cpN (M := M1) L'.2.2.2.1 L.2.2.2.1 (by decide) (by omega)
  rw [gF_of L'.1 (by rw [g1]; exact L'.2.1.2.1), tF_of (by rw [g1]; exact L.2.1.2.1), show aC Sh M1 0 (v + 2) 0 (q + 2) 0 10 = aC Sh M1 0 (v + 2) 0 (q + 2) 0 (nI 10) from rfl, e2]
  have g2 : M2.2 = M.2 := f2.1.trans g1
  obtain ⟨M3, e3, f3, c3⟩ := cpN (M := M2) L'.2.2.2.2.1 L.2.2.2.2.1 (by decide) (by omega)
  rw [gF_of L'.1 (by rw [g2]; exact L'.2.1.2.2.1), tF_of (by rw [g2]; exact L.2.1.2.2.1), show aC Sh M2 0 (v + 3) 0 (q + 3) 0 10 = aC Sh M2 0 (v + 3) 0 (q + 3) 0 (nI 10) from rfl, e3]
  have g3 : M3.2 = M.2 := f3.1.trans g2
  have o3 : AgI (fun a => q ≤ a ∧ a < q + 5) M M3 := ((b0.mono (fun a z => by omega)).tr (f1.mono (fun a z => by omega))).tr ((f2.mono (fun a z => by omega)).tr (f3.mono (fun a z => by omega)))
  have k0 : M3.1 q 0 = nI Q.length := by rw [f3.2 q (by omega), f2.2 q (by omega), f1.2 q (by omega)]; exact v0
  have k1 : ∀ i, i < 10 → M3.1 (q + 1) i = M.1 (v + 1) i := fun i hi => by rw [f3.2 _ (by omega), f2.2 _ (by omega), c1 i hi, b0.2 _ (by omega)]
  have k2 : ∀ i, i < 10 → M3.1 (q + 2) i = M.1 (v + 2) i := fun i hi => by rw [f3.2 _ (by omega), c2 i hi, f1.2 _ (by omega), b0.2 _ (by omega)]
  have k3 : ∀ i, i < 10 → M3.1 (q + 3) i = M.1 (v + 3) i := fun i hi => by rw [c3 i hi, f2.2 _ (by omega), f1.2 _ (by omega), b0.2 _ (by omega)]
  have hv3 : QR Sh M3 v Q := hv.Ag o3.toAg (fun a x y => by omega)
  unfold fX1_copyFrom_55
  obtain ⟨M', e', r1, r2⟩ := iter_inv (f := fun s : Int32 × Mm => fX1_copyFrom_55b n Sh q v s.2 s.1) Q.length (fun j s => s.1 = nI j ∧ AgI (fun a => q + 5 ≤ a ∧ a < q + 25) M3 s.2 ∧ (∀ k, k < 10 → ∃ l, WR Sh s.2 (q + 5 + 2 * k) 256 l) ∧ (∀ i x, i < j → Q[i]? = some x → WR Sh s.2 (q + 5 + 2 * p i) 256 x.2.2.2)) (fun M' => QR Sh M' q Q ∧ AgI (fun a => q ≤ a ∧ a < q + 25) M M') (fun j s hj hI => by
    obtain ⟨x, N⟩ := s
    obtain ⟨rfl, f, w, wj⟩ := hI
    dsimp only at f w wj ⊢
    have gN : N.2 = M.2 := f.1.trans g3
    have hvN : QR Sh N v Q := hv3.Ag f.toAg (fun a x y => by omega)
    have kN : N.1 q 0 = nI Q.length := by rw [f.2 q (by omega)]; exact k0
    unfold fX1_copyFrom_55b
    simp only [tI_of, kN, lt_nI (show j < 2 ^ 31 by omega) (show Q.length < 2 ^ 31 by omega)]
    by_cases hjl : j < Q.length
    · have hj10 : j < 10 := by omega
      obtain ⟨-, -, -, -, p'', p1'', p2'', p3'', p4''⟩ := hvN
      have hx : Q[j]? = some Q[j] := List.getElem?_eq_getElem hjl
      have ws := (p4'' j _ hx).2.2.2
      obtain ⟨l0, wd⟩ := w (p j) (p1 j hj10)
      rw [if_pos hjl, if_pos (show nI j < 10 from (nI_ltI (b := 10) (by omega) (by decide)).mpr hj10), tF_of (by rw [gN]; exact L.2.1.2.2.2), aR_nI L.2.2.2.2.2 hj10 (by decide) (by rw [gN]; exact p3 j hj10), gF_of L'.1 (by rw [gN]; exact L'.2.1.2.2.2), aR_nI L'.2.2.2.2.2 hj10 (by decide) (p3'' j hj10)]
      have hb1 := p1 j hj10
      have hb2 := p1'' j hj10
      obtain ⟨N1, x1, y1, z1⟩ := w_become (n := n) wd ws (by omega) (by omega) (by omega) ws.2.2.2.2.1 (by decide)
      rw [chk_pos wd.1, bind_of x1]
      refine Or.inl ⟨hjl, _, rfl, nI_add1 j, f.tr (z1.mono (fun a z => by omega)), fun k hk => ?_, fun i y hi hy => ?_⟩
      · by_cases e : k = p j
        · subst e; exact ⟨_, y1⟩
        · obtain ⟨l, g⟩ := w k hk
          exact ⟨l, g.ag z1 (by omega) (by omega)⟩
      · by_cases e : i = j
        · subst e
          rw [hx] at hy
          cases hy
          exact y1
        · have hi10 : i < 10 := by omega
          have hne : p i ≠ p j := fun z => e (p2 i j hi10 hj10 z)
          exact (wj i y (by omega) hy).ag z1 (by omega) (by omega)
    · rw [if_neg hjl]
      refine Or.inr ⟨N, rfl, ⟨by rw [gN]; exact L, kN, d2, w, p, p1, p2, fun i hi => by rw [gN]; exact p3 i hi, fun i y hy => ?_⟩, o3.mono (fun a z => by omega) |>.tr (f.mono (fun a z => by omega))⟩
      have hil := (List.getElem?_eq_some_iff.mp hy).1
      have hij : i < j := by omega
      obtain ⟨s1, s2, s3, -⟩ := p4' i y hy
      exact ⟨by rw [f.2 _ (by omega), k1 i (by omega)]; exact s1, by rw [f.2 _ (by omega), k2 i (by omega)]; exact s2, by rw [f.2 _ (by omega), k3 i (by omega)]; exact s3, wj i y hij hy⟩) (show Q.length < n by omega) (s := (0, M3)) ⟨rfl, AgI.rf, fun k hk => by
      obtain ⟨l, g⟩ := hw k hk
      exact ⟨l, g.ag o3 (by omega) (by omega)⟩, fun i x hi => absurd hi (Nat.not_lt_zero i)⟩
  exact ⟨M', e', r1, r2⟩
variable {sp sp0 : List Int32} {fo rd la fo0 rd0 la0 : Int32}
theorem s_copy (h : CS Sh M σ A0 K0 W0 Q0 sp0 fo0 rd0 la0) (hu : CS Sh M τ A K W Q sp fo rd la) (hn : 24 < n) (ho : σ + 137 ≤ τ ∨ τ + 137 ≤ σ) : ∃ M', fX3_copyFrom n Sh M σ τ = some M' ∧ CS Sh M' σ A K W Q sp fo rd la ∧ AgI (SC σ) M M' := by
  unfold fX3_copyFrom
  obtain ⟨M1, e1, r1, v1, f1⟩ := c_copyTree (n := n) h.2.1 hu.2.1 hn (by omega)
  rw [tF_of h.1.2.1, gF_of hu.1.1 hu.1.2.1, chk_pos h.2.1.1.1, bind_of e1]
  have h1 := h.tree (f1.mono (fun a z => by omega)) r1
  rw [v1, hu.2.2.1] at h1
  have u1 : CS Sh M1 τ A K W Q sp fo rd la := hu.agg f1.toAg (fun a x y => by omega)
  obtain ⟨M2, e2, r2, f2⟩ := q_copy (n := n) h1.2.2.2.1 u1.2.2.2.1 hn (by omega)
  rw [tF_of h1.1.2.2.1, gF_of u1.1.1 u1.1.2.2.1, chk_pos h1.2.2.2.1.1.1, bind_of e2]
  have h2 := h1.queue (f2.toAg.mono (fun a z => by unfold QS; omega)) r2
  have u2 : CS Sh M2 τ A K W Q sp fo rd la := u1.agg f2.toAg (fun a x y => by omega)
  have w1 := h2.2.2.2.2.1
  have w2 := u2.2.2.2.2.1
  obtain ⟨M3, e3, r3, f3⟩ := w_become (n := n) w1 w2 (by omega) (by omega) (by omega) w2.2.2.2.2.1 (by decide)
  rw [tF_of h2.1.2.2.2, gF_of u2.1.1 u2.1.2.2.2, chk_pos w1.1, bind_of e3]
  have u3 : CS Sh M3 τ A K W Q sp fo rd la := u2.agg f3.toAg (fun a x y => by omega)
  have h3 : CS Sh M3 σ A K W Q sp fo0 rd0 la := by
    obtain ⟨q1, q2, q3, q4, q5, q6, q7⟩ := h2
    exact ⟨by rw [f3.1]; exact q1, q2.ag f3 (fun a x y => by omega), by rw [f3.2 _ (by omega)]; exact q3, q4.Ag f3.toAg (fun a x y => by omega), r3, by rw [f3.2 _ (by omega)]; exact q6, by rw [f3.2 _ (by omega)]; exact q7⟩
  rw [gI_of u3.1.1, u3.2.2.2.2.2.1]
  simp only [qI_of]
  have h4 := h3.foc fo
  have u4 : CS Sh (uI M3 σ 3 fo) τ A K W Q sp fo rd la := u3.agg (Ag.uI (S := fun a => a = σ) rfl) (fun a x y => by omega)
  rw [gI_of u4.1.1, u4.2.2.2.2.2.2]
  refine ⟨_, rfl, h4.rdl rd, (((f1.mono (fun a z => by unfold SC; omega)).tr (f2.mono (fun a z => by unfold SC; omega))).tr (f3.mono (fun a z => by unfold SC; omega))).tr ((AgI.uI (by unfold SC; omega)).tr (AgI.uI (by unfold SC; omega)))⟩
end CCOPY
