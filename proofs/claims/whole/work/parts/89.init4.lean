/-! ===== LEVEL 2: a new queue, a new scene ===== -/
section NEWS
variable {S : Sp} {M : Mm} {n q σ : Nat}
theorem new_Q (hn : 24 < n) : ∃ S' M', fX1_init n (upS S q (.inl 1)) (zM M q) (q + 1) q = some (S', M', q + 25) ∧ QR S' M' q [] ∧ Gq (fun b => b < q) S M S' M' := by
  unfold fX1_init
  rw [show (10 : Int32) = nI 10 from rfl, pI_of upS_s, nAF upS_s (by omega) (by decide), nAF (by simp [upS, Nat.add_assoc]) (by omega) (by decide), nAF (by simp [upS, Nat.add_assoc]) (by omega) (by decide), nAF (by simp [upS, Nat.add_assoc]) (by omega) (by decide)]
  show ∃ S' M', iter 11 _ (0, upS (upS (upS (upS (upS S q (.inl 1)) (q + 1) (.inr (0, 10))) (q + 2) (.inr (0, 10))) (q + 3) (.inr (0, 10))) (q + 4) (.inr (4, 10)), uR (zM (uR (zM (uR (zM (uR (zM (uI (zM M q) q 0 0) (q + 1)) q 1 (some (q + 1))) (q + 2)) q 2 (some (q + 2))) (q + 3)) q 3 (some (q + 3))) (q + 4)) q 4 (some (q + 4)), q + 5) = _ ∧ _
  have hL : QL (upS (upS (upS (upS (upS S q (.inl 1)) (q + 1) (.inr (0, 10))) (q + 2) (.inr (0, 10))) (q + 3) (.inr (0, 10))) (q + 4) (.inr (4, 10))) (uR (zM (uR (zM (uR (zM (uR (zM (uI (zM M q) q 0 0) (q + 1)) q 1 (some (q + 1))) (q + 2)) q 2 (some (q + 2))) (q + 3)) q 3 (some (q + 3))) (q + 4)) q 4 (some (q + 4))).2.1 q := by
    refine ⟨by simp [upS], ?_, by simp [upS]⟩
    simp [uR_same, uR_row, zM_2o]
  have h0 : (uR (zM (uR (zM (uR (zM (uR (zM (uI (zM M q) q 0 0) (q + 1)) q 1 (some (q + 1))) (q + 2)) q 2 (some (q + 2))) (q + 3)) q 3 (some (q + 3))) (q + 4)) q 4 (some (q + 4))).1 q 0 = 0 := by
    rw [uR_1, zM_1o (by omega), uR_1, zM_1o (by omega), uR_1, zM_1o (by omega), uR_1, zM_1o (by omega), uI_same]
  have hg : Gq (fun b => b < q) S M (upS (upS (upS (upS (upS S q (.inl 1)) (q + 1) (.inr (0, 10))) (q + 2) (.inr (0, 10))) (q + 3) (.inr (0, 10))) (q + 4) (.inr (4, 10))) (uR (zM (uR (zM (uR (zM (uR (zM (uI (zM M q) q 0 0) (q + 1)) q 1 (some (q + 1))) (q + 2)) q 2 (some (q + 2))) (q + 3)) q 3 (some (q + 3))) (q + 4)) q 4 (some (q + 4))) := by
    refine Gq.tr ?_ ((Gq.up (fun b hb => by omega)).tr (Gq.uR (fun b hb => by omega)))
    refine Gq.tr ?_ ((Gq.up (fun b hb => by omega)).tr (Gq.uR (fun b hb => by omega)))
    refine Gq.tr ?_ ((Gq.up (fun b hb => by omega)).tr (Gq.uR (fun b hb => by omega)))
    refine Gq.tr ?_ ((Gq.up (fun b hb => by omega)).tr (Gq.uR (fun b hb => by omega)))
    exact (Gq.up (fun b hb => by omega)).tr (Gq.uI (fun b hb => by omega))
  generalize upS (upS (upS (upS (upS S q (.inl 1)) (q + 1) (.inr (0, 10))) (q + 2) (.inr (0, 10))) (q + 3) (.inr (0, 10))) (q + 4) (.inr (4, 10)) = Sa at *
  generalize uR (zM (uR (zM (uR (zM (uR (zM (uI (zM M q) q 0 0) (q + 1)) q 1 (some (q + 1))) (q + 2)) q 2 (some (q + 2))) (q + 3)) q 3 (some (q + 3))) (q + 4)) q 4 (some (q + 4)) = Ma at *
  obtain ⟨r, er, hr⟩ := iter_inv (n := 11) (f := fun s : Int32 × Sp × Mm × Nat => fX1_init_44b n q s.1 s.2.1 s.2.2.1 s.2.2.2) 10 (fun j s => s.1 = nI j ∧ s.2.2.2 = q + 5 + 2 * j ∧ Gq (fun b => b < q + 5 ∧ b ≠ q + 4) Sa Ma s.2.1 s.2.2.1 ∧ s.2.1 (q + 4) = some (.inr (4, 10)) ∧ ∀ i, i < j → s.2.2.1.2.1 (q + 4) i = some (q + 5 + 2 * i) ∧ WR s.2.1 s.2.2.1 (q + 5 + 2 * i) 256 []) (fun r => ∃ S' M', r = (S', M', q + 25) ∧ QR S' M' q [] ∧ Gq (fun b => b < q) S M S' M') (fun j s hj hI => by
    obtain ⟨v, S0, M0, nx⟩ := s
    obtain ⟨rfl, rfl, hG, h4, hi⟩ := hI
    dsimp only at hG h4 hi ⊢
    have gq := hG q (by omega)
    unfold fX1_init_44b
    by_cases h10 : j < 10
    · obtain ⟨S1, M1, e1, r1, g1⟩ := new_W (n := n) (S := S0) (M := M0) (w := q + 5 + 2 * j) (cap := 256) (by decide)
      rw [if_pos (show nI j < 10 from (nI_ltI (b := 10) (by omega) (by decide)).mpr h10), gF_of (by rw [gq.1]; exact hL.1) (by rw [gq.2.2]; exact hL.2.1.2.2.2)]
      show (_ ∧ ∃ s', (fX5_init n (upS S0 (q + 5 + 2 * j) (.inl 5)) (zM M0 (q + 5 + 2 * j)) (q + 5 + 2 * j + 1) (q + 5 + 2 * j) (nI 256)).bind _ = _ ∧ _) ∨ _
      have h41 : S1 (q + 4) = some (.inr (4, 10)) := by rw [(g1 (q + 4) (by omega)).1]; exact h4
      rw [bind_of e1, sR_nI h41 h10 (by decide) r1.1]
      refine Or.inl ⟨h10, _, rfl, nI_add1 j, (by omega : q + 5 + 2 * j + 2 = q + 5 + 2 * (j + 1)), hG.tr ((g1.mono (fun b hb => by omega)).tr (Gq.uR (fun b hb => by omega))), h41, fun i hij => ?_⟩
      dsimp only
      by_cases c : i = j
      · subst c
        exact ⟨uR_same, r1.gq (Gq.uR (P := fun b => b ≠ q + 4) (fun b hb => hb)) (by omega) (by omega)⟩
      · obtain ⟨p1, p2⟩ := hi i (by omega)
        exact ⟨by rw [uR_row c, (g1 (q + 4) (by omega)).2.2]; exact p1, (p2.gq g1 (by omega) (by omega)).gq (Gq.uR (P := fun b => b ≠ q + 4) (fun b hb => hb)) (by omega) (by omega)⟩
    · obtain rfl : j = 10 := by omega
      rw [if_neg (show ¬ nI 10 < 10 by decide)]
      refine Or.inr ⟨_, rfl, S0, M0, rfl, ⟨⟨by rw [gq.1]; exact hL.1, by rw [gq.2.2]; exact hL.2.1, by rw [(hG (q + 1) (by omega)).1]; exact hL.2.2.1, by rw [(hG (q + 2) (by omega)).1]; exact hL.2.2.2.1, by rw [(hG (q + 3) (by omega)).1]; exact hL.2.2.2.2.1, h4⟩, by rw [gq.2.1]; exact h0, Nat.zero_le _, fun k hk => ⟨_, (hi k hk).2⟩, id, fun i hi => hi, fun _ _ _ _ e => e, fun i hh => (hi i hh).1, fun i x hx => absurd hx (by simp)⟩, hg.tr (hG.mono (fun b hb => by omega))⟩) (show 10 < 11 by decide) (s := (0, Sa, Ma, q + 5)) ⟨rfl, rfl, Gq.rf, hL.2.2.2.2.2, fun i hi => absurd hi (by omega)⟩
  obtain ⟨S', M', rfl, h1, h2⟩ := hr
  exact ⟨S', M', er, h1, h2⟩
end NEWS
