/-! ===== LEVEL 2: the reference's object, and the start ===== -/
section NEWR
variable {S : Sp} {M : Mm} {B n μ : Nat}
theorem sI_any {ρ : Type} {a N k : Nat} {v w : Int32} {K : Mm → Option ρ} (hw : w = nI k) (h : S a = some (.inr (0, N))) (hj : k < N) (hN : N < 2 ^ 31) : sI S M a w v K = K (uI M a k v) := by
  rw [hw]; exact sI_nI h hj hN
theorem new_M : ∃ S' M', fX7_init n (upS S μ (.inl 7)) (zM M μ) (μ + 1) μ = some (S', M', μ + 7) ∧ MX S' M' μ z0 [] [] ∧ Gq (fun b => b < μ) S M S' M' := by
  unfold fX7_init
  rw [show (24 : Int32) = nI 24 from rfl, show (3405 : Int32) = nI 3405 from rfl, show (17025 : Int32) = nI 17025 from rfl, show (8 : Int32) = nI 8 from rfl, show (260 : Int32) = nI 260 from rfl]
  rw [nAF upS_s (by omega) (by decide), nAF (by simp [upS, Nat.add_assoc]) (by omega) (by decide), nAF (by simp [upS, Nat.add_assoc]) (by omega) (by decide), nAF (by simp [upS, Nat.add_assoc]) (by omega) (by decide), nAF (by simp [upS, Nat.add_assoc]) (by omega) (by decide), nAF (by simp [upS, Nat.add_assoc]) (by omega) (by decide)]
  have hL : ML (upS (upS (upS (upS (upS (upS (upS S μ (.inl 7)) (μ + 1) (.inr (0, 3405))) (μ + 2) (.inr (0, 17025))) (μ + 3) (.inr (0, 8))) (μ + 4) (.inr (0, 260))) (μ + 5) (.inr (3, 24))) (μ + 6) (.inr (0, 24))) (uR (zM (uR (zM (uR (zM (uR (zM (uR (zM (uR (zM (zM M μ) (μ + 1)) μ 0 (some (μ + 1))) (μ + 2)) μ 1 (some (μ + 2))) (μ + 3)) μ 3 (some (μ + 3))) (μ + 4)) μ 6 (some (μ + 4))) (μ + 5)) μ 8 (some (μ + 5))) (μ + 6)) μ 9 (some (μ + 6))).2.1 μ := by
    refine ⟨by simp [upS], ?_, by simp [upS]⟩
    simp [uR_same, uR_row, zM_2o]
  have h0 : (uR (zM (uR (zM (uR (zM (uR (zM (uR (zM (uR (zM (zM M μ) (μ + 1)) μ 0 (some (μ + 1))) (μ + 2)) μ 1 (some (μ + 2))) (μ + 3)) μ 3 (some (μ + 3))) (μ + 4)) μ 6 (some (μ + 4))) (μ + 5)) μ 8 (some (μ + 5))) (μ + 6)) μ 9 (some (μ + 6))).1 μ = fun _ => 0 := by
    simp [uR_1, zM_1o, zM_1s]
  have h1 : (uR (zM (uR (zM (uR (zM (uR (zM (uR (zM (uR (zM (zM M μ) (μ + 1)) μ 0 (some (μ + 1))) (μ + 2)) μ 1 (some (μ + 2))) (μ + 3)) μ 3 (some (μ + 3))) (μ + 4)) μ 6 (some (μ + 4))) (μ + 5)) μ 8 (some (μ + 5))) (μ + 6)) μ 9 (some (μ + 6))).1 (μ + 1) = fun _ => 0 := by
    simp [uR_1, zM_1o, zM_1s]
  have hg : Gq (fun b => b < μ) S M (upS (upS (upS (upS (upS (upS (upS S μ (.inl 7)) (μ + 1) (.inr (0, 3405))) (μ + 2) (.inr (0, 17025))) (μ + 3) (.inr (0, 8))) (μ + 4) (.inr (0, 260))) (μ + 5) (.inr (3, 24))) (μ + 6) (.inr (0, 24))) (uR (zM (uR (zM (uR (zM (uR (zM (uR (zM (uR (zM (zM M μ) (μ + 1)) μ 0 (some (μ + 1))) (μ + 2)) μ 1 (some (μ + 2))) (μ + 3)) μ 3 (some (μ + 3))) (μ + 4)) μ 6 (some (μ + 4))) (μ + 5)) μ 8 (some (μ + 5))) (μ + 6)) μ 9 (some (μ + 6))) := by
    refine Gq.tr ?_ ((Gq.up (fun b hb => by omega)).tr (Gq.uR (fun b hb => by omega)))
    refine Gq.tr ?_ ((Gq.up (fun b hb => by omega)).tr (Gq.uR (fun b hb => by omega)))
    refine Gq.tr ?_ ((Gq.up (fun b hb => by omega)).tr (Gq.uR (fun b hb => by omega)))
    refine Gq.tr ?_ ((Gq.up (fun b hb => by omega)).tr (Gq.uR (fun b hb => by omega)))
    refine Gq.tr ?_ ((Gq.up (fun b hb => by omega)).tr (Gq.uR (fun b hb => by omega)))
    exact (Gq.up (fun b hb => by omega)).tr ((Gq.up (fun b hb => by omega)).tr (Gq.uR (fun b hb => by omega)))
  show ∃ S' M', (gF (upS (upS (upS (upS (upS (upS (upS S μ (.inl 7)) (μ + 1) (.inr (0, 3405))) (μ + 2) (.inr (0, 17025))) (μ + 3) (.inr (0, 8))) (μ + 4) (.inr (0, 260))) (μ + 5) (.inr (3, 24))) (μ + 6) (.inr (0, 24))) (uR (zM (uR (zM (uR (zM (uR (zM (uR (zM (uR (zM (zM M μ) (μ + 1)) μ 0 (some (μ + 1))) (μ + 2)) μ 1 (some (μ + 2))) (μ + 3)) μ 3 (some (μ + 3))) (μ + 4)) μ 6 (some (μ + 4))) (μ + 5)) μ 8 (some (μ + 5))) (μ + 6)) μ 9 (some (μ + 6))) μ 7 0 _) = some (S', M', μ + 7) ∧ _
  generalize upS (upS (upS (upS (upS (upS (upS S μ (.inl 7)) (μ + 1) (.inr (0, 3405))) (μ + 2) (.inr (0, 17025))) (μ + 3) (.inr (0, 8))) (μ + 4) (.inr (0, 260))) (μ + 5) (.inr (3, 24))) (μ + 6) (.inr (0, 24)) = Sa at *
  generalize uR (zM (uR (zM (uR (zM (uR (zM (uR (zM (uR (zM (zM M μ) (μ + 1)) μ 0 (some (μ + 1))) (μ + 2)) μ 1 (some (μ + 2))) (μ + 3)) μ 3 (some (μ + 3))) (μ + 4)) μ 6 (some (μ + 4))) (μ + 5)) μ 8 (some (μ + 5))) (μ + 6)) μ 9 (some (μ + 6)) = Ma at *
  have hf := hL.2.1.1
  have ha := hL.2.2.1
  rw [gF_of hL.1 hf, sI_any (w := 0) (k := 0) rfl ha (by decide) (by decide), gF_of hL.1 (by rw [uI_2]; exact hf), sI_any (w := 1) (k := 1) rfl ha (by decide) (by decide), gF_of hL.1 (by rw [uI_2, uI_2]; exact hf), sI_any (w := 4) (k := 4) rfl ha (by decide) (by decide), gF_of hL.1 (by rw [uI_2, uI_2, uI_2]; exact hf), sI_any (w := 11) (k := 11) rfl ha (by decide) (by decide), gF_of hL.1 (by rw [uI_2, uI_2, uI_2, uI_2]; exact hf), sI_any (w := 3402) (k := 3402) rfl ha (by decide) (by decide), gF_of hL.1 (by rw [uI_2, uI_2, uI_2, uI_2, uI_2]; exact hf), sI_any (w := 3403) (k := 3403) rfl ha (by decide) (by decide)]
  have row : ∀ k, (uI (uI (uI (uI (uI (uI Ma (μ + 1) 0 1) (μ + 1) 1 (-1)) (μ + 1) 4 (-1)) (μ + 1) 11 (-1)) (μ + 1) 3402 (-1)) (μ + 1) 3403 (-1)).1 (μ + 1) k = if k = 0 then 1 else if k = 1 ∨ k = 4 ∨ k = 11 ∨ k = 3402 ∨ k = 3403 then -1 else 0 := fun k => by
    by_cases c0 : k = 0
    · subst c0
      rw [uI_row (by decide), uI_row (by decide), uI_row (by decide), uI_row (by decide), uI_row (by decide), uI_same, if_pos rfl]
    · rw [if_neg c0]
      by_cases c1 : k = 3403
      · subst c1; rw [uI_same, if_pos (by omega)]
      · rw [uI_row c1]
        by_cases c2 : k = 3402
        · subst c2; rw [uI_same, if_pos (by omega)]
        · rw [uI_row c2]
          by_cases c3 : k = 11
          · subst c3; rw [uI_same, if_pos (by omega)]
          · rw [uI_row c3]
            by_cases c4 : k = 4
            · subst c4; rw [uI_same, if_pos (by omega)]
            · rw [uI_row c4]
              by_cases c5 : k = 1
              · subst c5; rw [uI_same, if_pos (by omega)]
              · rw [uI_row c5, uI_row c0, if_neg (by omega), h1]
  have oth : (uI (uI (uI (uI (uI (uI Ma (μ + 1) 0 1) (μ + 1) 1 (-1)) (μ + 1) 4 (-1)) (μ + 1) 11 (-1)) (μ + 1) 3402 (-1)) (μ + 1) 3403 (-1)).1 μ = fun _ => 0 := by
    rw [uI_off (by omega), uI_off (by omega), uI_off (by omega), uI_off (by omega), uI_off (by omega), uI_off (by omega)]; exact h0
  have hgu : Gq (fun b => b < μ) Sa Ma Sa (uI (uI (uI (uI (uI (uI Ma (μ + 1) 0 1) (μ + 1) 1 (-1)) (μ + 1) 4 (-1)) (μ + 1) 11 (-1)) (μ + 1) 3402 (-1)) (μ + 1) 3403 (-1)) := (((Gq.uI (fun b hb => by omega)).tr (Gq.uI (fun b hb => by omega))).tr ((Gq.uI (fun b hb => by omega)).tr (Gq.uI (fun b hb => by omega)))).tr ((Gq.uI (fun b hb => by omega)).tr (Gq.uI (fun b hb => by omega)))
  have hLu : ML Sa (uI (uI (uI (uI (uI (uI Ma (μ + 1) 0 1) (μ + 1) 1 (-1)) (μ + 1) 4 (-1)) (μ + 1) 11 (-1)) (μ + 1) 3402 (-1)) (μ + 1) 3403 (-1)).2.1 μ := hL
  generalize uI (uI (uI (uI (uI (uI Ma (μ + 1) 0 1) (μ + 1) 1 (-1)) (μ + 1) 4 (-1)) (μ + 1) 11 (-1)) (μ + 1) 3402 (-1)) (μ + 1) 3403 (-1) = Mb at *
  refine ⟨Sa, Mb, rfl, ⟨hLu, ⟨fun j hj => ⟨?_, fun hl => ?_⟩, ⟨?_, Nat.zero_le _, fun i x hx => absurd hx (by simp)⟩, ?_, Nat.zero_le _, fun j hj => absurd hj (by simp), ?_, ?_, ?_⟩, ⟨by rw [oth]; rfl, Nat.zero_le _, fun i x hx => absurd hx (by simp)⟩, by rw [oth]; rfl, Nat.zero_le _, fun k hk => absurd hk (by simp)⟩, hg.tr hgu⟩
  · rw [row]
    by_cases c : j = 0
    · subst c
      rw [if_pos rfl, bI_pos (A0_live.mpr rfl)]
    · rw [if_neg (by omega), if_neg (by omega), bI_neg (fun h => c (A0_live.mp h))]
  · obtain rfl := A0_live.mp hl
    have e1 : A0 0 1 = -1 := by rw [A0_0]; rfl
    have e2 : A0 0 2 = -1 := by rw [A0_0]; rfl
    have e3 : A0 0 3 = 0 := by rw [A0_0]; rfl
    have e0 : A0 0 0 = 0 := by rw [A0_0]; rfl
    have er : rank A0 (fun _ => []) 0 = 0 := by
      unfold rank
      rw [if_pos (by rw [e1]; decide)]
    refine ⟨?_, ?_, ?_, ?_, fun s hs => ?_, ?_, ?_, ?_, ?_, fun k hk => absurd hk (by simp), fun k hk => absurd hk (by simp)⟩
    · rw [row]; exact e1.symm
    · rw [row, er]; rfl
    · rw [row]; exact e0.symm
    · rw [row]; exact e2.symm
    · rw [row, if_neg (by omega), if_neg (by omega)]
      show 0 = A0 0 (5 + s)
      rw [A0_0]
      unfold bgv
      rw [if_neg (by omega), if_neg (by omega), if_neg (by omega), if_neg (by omega)]
    · rw [row]; exact e3.symm
    · rw [row]; exact (if_pos e3).symm
    · rw [row]; rfl
    · rw [row]; rfl
  · rw [row]; rfl
  · rw [row]; rfl
  · rw [row]; rfl
  · rw [row]; rfl
  · rw [row]; rfl
theorem start_all (xs : Nat → Int32) (L : Nat) (hL : L ≤ 2048) (hn : 20000 < n) : fL_start n B xs L = some 1 := by
  unfold fL_start
  obtain ⟨S1, M1, e1, h1⟩ := new_X (n := n) (S := fun _ => none) (M := (fun _ _ => 0, fun _ _ => none, fun _ _ => 0)) (B := B) (by omega)
  show ((fX6_init n (upS (fun _ => none) B (.inl 6)) (zM (fun _ _ => 0, fun _ _ => none, fun _ _ => 0) B) (B + 1) B).bind _) = _
  rw [bind_of e1]
  obtain ⟨S2, M2, e2, h2, g2⟩ := new_M (n := n) (S := S1) (M := M1) (μ := B + 833)
  show ((fX7_init n (upS S1 (B + 833) (.inl 7)) (zM M1 (B + 833)) (B + 833 + 1) (B + 833)).bind _) = _
  rw [bind_of e2, show (1 : Int32) = nI 1 from rfl, nA_of (by decide)]
  have g3 : Gq (fun b => b < B + 840) S2 M2 (upS S2 (B + 833 + 7) (.inr (2, 1))) (zM M2 (B + 833 + 7)) := Gq.up (fun b hb => by omega)
  have c3 : CX (upS S2 (B + 833 + 7) (.inr (2, 1))) (zM M2 (B + 833 + 7)) B z0 [] [] := by
    have g : Gq (fun b => b < B + 833) S1 M1 (upS S2 (B + 833 + 7) (.inr (2, 1))) (zM M2 (B + 833 + 7)) := g2.tr (g3.mono (fun b hb => by omega))
    obtain ⟨⟨x1, x2, x3, x4, x5, x6⟩, k2, ⟨k3, k4⟩, ⟨r1, p, r2, r3, r4, r5⟩, k6, l, k7⟩ := h1
    have gB := g B (by omega)
    have q8 := g (B + 138) (by omega)
    refine ⟨⟨by rw [gB.1]; exact x1, by rw [gB.2.2]; exact x2, ⟨by rw [q8.1]; exact x3.1, by rw [q8.2.2]; exact x3.2.1, by rw [q8.2.2]; exact x3.2.2.1, by rw [q8.2.2]; exact x3.2.2.2.1, by rw [(g (B + 139) (by omega)).1]; exact x3.2.2.2.2.1, by rw [(g (B + 140) (by omega)).1]; exact x3.2.2.2.2.2⟩, ⟨by rw [(g (B + 141) (by omega)).1]; exact x4.1, by rw [(g (B + 141) (by omega)).2.2]; exact x4.2⟩, by rw [(g (B + 142) (by omega)).1]; exact x5, by rw [(g (B + 147) (by omega)).1]; exact x6⟩, CS.gq k2 g (fun b x y => by omega), ⟨by rw [gB.2.1]; exact k3, k4⟩, ⟨fun k hk => ?_, p, r2, r3, fun i hi => by rw [(g (B + 142) (by omega)).2.2]; exact r4 i hi, fun i x hx => absurd hx (by simp)⟩, k6.gq g (by omega) (by omega), l, k7.gq g (by omega) (by omega)⟩
    obtain ⟨y, hy⟩ := r1 k hk
    exact ⟨y, CS.gq hy g (fun b x y => by omega)⟩
  have m3 : MX (upS S2 (B + 833 + 7) (.inr (2, 1))) (zM M2 (B + 833 + 7)) (B + 833) z0 [] [] := by
    have h3 : MX S2 (zM M2 (B + 833 + 7)) (B + 833) z0 [] [] := h2.fr (fun a x y => ⟨(g3 a (by omega)).2.1, (g3 a (by omega)).2.2⟩)
    obtain ⟨⟨l1, l2, l3, l4, l5, l6, l7, l8⟩, h4⟩ := h3
    exact ⟨⟨by rw [(g3 _ (by omega)).1]; exact l1, l2, by rw [(g3 _ (by omega)).1]; exact l3, by rw [(g3 _ (by omega)).1]; exact l4, by rw [(g3 _ (by omega)).1]; exact l5, by rw [(g3 _ (by omega)).1]; exact l6, by rw [(g3 _ (by omega)).1]; exact l7, by rw [(g3 _ (by omega)).1]; exact l8⟩, h4⟩
  rw [chk_pos ⟨c3.1.1, m3.1.1⟩]
  exact loop_all ⟨z0, [], [], c3, m3, SI0⟩ hn upS_s hL
end NEWR
theorem pure_main (B : Nat) (xs : Nat → Int32) (L : Nat) (hL : L ≤ 2048) : ∃ n, fL_start n B xs L = some 1 := ⟨30000, start_all xs L hL (by decide)⟩
