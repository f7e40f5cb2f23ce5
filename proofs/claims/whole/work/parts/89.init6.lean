/-! ===== LEVEL 2: the two objects, newly made ===== -/
noncomputable abbrev z0 : Sc := (A0, (fun _ => []), (fun _ _ => []), [], [], -1, -1, 0)
theorem A0_0 {s : Nat} : A0 0 s = bgv 0 s := by
  show (if (0 : Nat) = 0 then bgv 0 s else bgv (-1) s) = _
  rw [if_pos rfl]
theorem A0_o {j s : Nat} (h : j ≠ 0) : A0 j s = bgv (-1) s := by
  show (if j = 0 then bgv 0 s else bgv (-1) s) = _
  rw [if_neg h]
theorem A0_s {j s : Nat} (h : s ≠ 0) : A0 j s = bgv (-1) s := by
  by_cases c : j = 0
  · rw [c, A0_0]; unfold bgv; rw [if_neg h, if_neg h]
  · exact A0_o c
theorem A0_live {j : Nat} : live A0 j ↔ j = 0 := by
  refine ⟨fun h => ?_, fun h => ?_⟩
  · by_cases c : j = 0
    · exact c
    · exact absurd (A0_o (s := 0) c) h.2
  · subst h
    exact ⟨by decide, by rw [A0_0]; decide⟩
theorem SI0 : SIall 0 z0 [] := by
  have e1 : ∀ j, A0 j 1 = -1 := fun j => by rw [A0_s (by decide)]; rfl
  have e2 : ∀ j, A0 j 2 = -1 := fun j => by rw [A0_s (by decide)]; rfl
  have e4 : ∀ j, A0 j 4 = -1 := fun j => by rw [A0_s (by decide)]; rfl
  have e3 : ∀ j, A0 j 3 = 0 := fun j => by rw [A0_s (by decide)]; rfl
  have e0 : A0 0 0 = 0 := by rw [A0_0]; rfl
  have n3 : ∀ j, ¬ A0 j 3 < 0 := fun j => by rw [e3]; decide
  have hF : WF A0 (fun _ => []) := ⟨⟨A0_live.mpr rfl, e1 0⟩, fun n h1 h2 => absurd (A0_live.mp h1) h2, fun p _ k hk => absurd hk (by simp), fun p _ => List.nodup_nil, fun _ => 0, fun p _ k hk => absurd hk (by simp)⟩
  have hA : WA A0 (fun _ _ => []) := fun j _ => ⟨Nat.zero_le _, Nat.zero_le _, Or.inl (e2 j), Or.inl (e4 j)⟩
  exact ⟨⟨hF, hA, ⟨fun j _ => n3 j, fun j _ _ => e3 j⟩, fun x hx => absurd hx (by simp), Or.inl rfl, Or.inl rfl, e0, 0, rfl, Nat.le_refl _⟩, fun x hx => absurd hx (by simp)⟩
section NEWO
variable {S : Sp} {M : Mm} {B n μ : Nat}
theorem new_X (hn : 24 < n) : ∃ S' M', fX6_init n (upS S B (.inl 6)) (zM M B) (B + 1) B = some (S', M', B + 833) ∧ CX S' M' B z0 [] [] := by
  unfold fX6_init
  obtain ⟨S1, M1, e1, h1, g1⟩ := new_S (n := n) (S := upS S B (.inl 6)) (M := zM M B) (σ := B + 1) hn
  have s1 : S1 B = some (.inl 6) := by rw [(g1 B (by omega)).1]; exact upS_s
  show ∃ S' M', ((fX3_init n (upS (upS S B (.inl 6)) (B + 1) (.inl 3)) (zM (zM M B) (B + 1)) (B + 1 + 1) (B + 1)).bind _) = _ ∧ _
  rw [bind_of e1, pF_of s1]
  -- the ring
  have s2 : upS S1 (B + 138) (.inl 2) B = some (.inl 6) := by rw [upS_o (by omega)]; exact s1
  have r2 : (zM (uR M1 B 0 (some (B + 1))) (B + 138)).2.1 B 0 = some (B + 1) := by rw [zM_2o (by omega), uR_same]
  obtain ⟨S3, M3, e3, h3, g3⟩ := new_R (n := n) (S := S1) (M := uR M1 B 0 (some (B + 1))) (ρ := B + 138) (x := B + 1)
  have s3 : S3 B = some (.inl 6) := by rw [(g3 B (by omega)).1]; exact s1
  show ∃ S' M', (gF (upS S1 (B + 138) (.inl 2)) (zM (uR M1 B 0 (some (B + 1))) (B + 138)) B 6 0 fun b9 => (fX2_init n (upS S1 (B + 138) (.inl 2)) (zM (uR M1 B 0 (some (B + 1))) (B + 138)) (B + 138 + 1) (B + 138) b9).bind _) = _ ∧ _
  rw [gF_of s2 r2, bind_of e3, pF_of s3]
  -- the grid
  have g3' : Gq (fun b => b ≠ B ∧ b < B + 138) S1 M1 S3 (uR M3 B 1 (some (B + 138))) := ((Gq.uR (fun b hb => hb.1)).tr (g3.mono (fun b hb => hb.2))).tr (Gq.uR (fun b hb => hb.1))
  have h1' := h1.gq g3' (fun b x y => by omega)
  have f0 : (uR M3 B 1 (some (B + 138))).2.1 B 0 = some (B + 1) := by rw [uR_row (by decide), (g3 B (by omega)).2.2, uR_same]
  have f1 : (uR M3 B 1 (some (B + 138))).2.1 B 1 = some (B + 138) := uR_same
  have ring3 : S3 (B + 138) = some (.inl 2) ∧ (uR M3 B 1 (some (B + 138))).2.1 (B + 138) 0 = some (B + 1) ∧ (uR M3 B 1 (some (B + 138))).2.1 (B + 138) 1 = some (B + 139) ∧ (uR M3 B 1 (some (B + 138))).2.1 (B + 138) 2 = some (B + 140) ∧ S3 (B + 139) = some (.inr (0, 24)) ∧ S3 (B + 140) = some (.inr (0, 24)) := by
    rw [uR_off (by omega)]; exact h3
  generalize uR M3 B 1 (some (B + 138)) = M4 at *
  have s5 : upS S3 (B + 141) (.inl 0) B = some (.inl 6) := by rw [upS_o (by omega)]; exact s3
  have s5' : upS S3 (B + 141) (.inl 0) (B + 1) = some (.inl 3) := by rw [upS_o (by omega)]; exact h1'.1.1
  show ∃ S' M', (gF (upS S3 (B + 141) (.inl 0)) (zM M4 (B + 141)) B 6 0 fun b15 => gF (upS S3 (B + 141) (.inl 0)) (zM M4 (B + 141)) b15 3 0 fun b16 => (fX0_init n (upS S3 (B + 141) (.inl 0)) (zM M4 (B + 141)) (B + 141 + 1) (B + 141) b16).bind _) = _ ∧ _
  rw [gF_of s5 (show (zM M4 (B + 141)).2.1 B 0 = _ by rw [zM_2o (by omega)]; exact f0), gF_of s5' (show (zM M4 (B + 141)).2.1 (B + 1) 0 = _ by rw [zM_2o (by omega)]; exact h1'.1.2.1)]
  have e5 : fX0_init n (upS S3 (B + 141) (.inl 0)) (zM M4 (B + 141)) (B + 141 + 1) (B + 141) (B + 1 + 1) = some (upS S3 (B + 141) (.inl 0), uR (zM M4 (B + 141)) (B + 141) 0 (some (B + 2)), B + 142) := by
    unfold fX0_init
    rw [pF_of upS_s]
  rw [bind_of e5, pF_of s5]
  have g5 : Gq (fun b => b ≠ B ∧ b < B + 141) S3 M4 (upS S3 (B + 141) (.inl 0)) (uR (uR (zM M4 (B + 141)) (B + 141) 0 (some (B + 2))) B 2 (some (B + 141))) := ((Gq.up (fun b hb => by omega)).tr (Gq.uR (fun b hb => by omega))).tr (Gq.uR (fun b hb => hb.1))
  have f50 : (uR (uR (zM M4 (B + 141)) (B + 141) 0 (some (B + 2))) B 2 (some (B + 141))).2.1 B 0 = some (B + 1) := by rw [uR_row (by decide), uR_off (by omega), zM_2o (by omega)]; exact f0
  have f51 : (uR (uR (zM M4 (B + 141)) (B + 141) 0 (some (B + 2))) B 2 (some (B + 141))).2.1 B 1 = some (B + 138) := by rw [uR_row (by decide), uR_off (by omega), zM_2o (by omega)]; exact f1
  have f52 : (uR (uR (zM M4 (B + 141)) (B + 141) 0 (some (B + 2))) B 2 (some (B + 141))).2.1 B 2 = some (B + 141) := uR_same
  have grid5 : upS S3 (B + 141) (.inl 0) (B + 141) = some (.inl 0) ∧ (uR (uR (zM M4 (B + 141)) (B + 141) 0 (some (B + 2))) B 2 (some (B + 141))).2.1 (B + 141) 0 = some (B + 2) := ⟨upS_s, by rw [uR_off (by omega), uR_same]⟩
  generalize uR (uR (zM M4 (B + 141)) (B + 141) 0 (some (B + 2))) B 2 (some (B + 141)) = M5 at *
  generalize upS S3 (B + 141) (.inl 0) = S5 at *
  -- the records' array
  rw [show (5 : Int32) = nI 5 from rfl, nAF s5 (by show B < B + 142; omega) (by decide)]
  have s6 : upS S5 (B + 142) (.inr (5, 5)) B = some (.inl 6) := by rw [upS_o (by omega)]; exact s5
  rw [pI_of s6]
  have g6 : Gq (fun b => b ≠ B ∧ b < B + 142) S5 M5 (upS S5 (B + 142) (.inr (5, 5))) (uI (uR (zM M5 (B + 142)) B 3 (some (B + 142))) B 4 0) := ((Gq.up (fun b hb => by omega)).tr (Gq.uR (fun b hb => hb.1))).tr (Gq.uI (fun b hb => hb.1))
  have f6 : ∀ k, k < 3 → (uI (uR (zM M5 (B + 142)) B 3 (some (B + 142))) B 4 0).2.1 B k = M5.2.1 B k := fun k hk => by rw [uI_2, uR_row (by omega), zM_2o (by omega)]
  have f63 : (uI (uR (zM M5 (B + 142)) B 3 (some (B + 142))) B 4 0).2.1 B 3 = some (B + 142) := by rw [uI_2, uR_same]
  have f64 : (uI (uR (zM M5 (B + 142)) B 3 (some (B + 142))) B 4 0).1 B 4 = 0 := uI_same
  have a6 : upS S5 (B + 142) (.inr (5, 5)) (B + 142) = some (.inr (5, 5)) := upS_s
  generalize uI (uR (zM M5 (B + 142)) B 3 (some (B + 142))) B 4 0 = M6 at *
  generalize upS S5 (B + 142) (.inr (5, 5)) = S6 at *
  -- the two word rooms
  obtain ⟨S7, M7, e7, h7, g7⟩ := new_W (n := n) (S := S6) (M := M6) (w := B + 143) (cap := 8) (by decide)
  have s7 : S7 B = some (.inl 6) := by rw [(g7 B (by omega)).1]; exact s6
  show ∃ S' M', ((fX5_init n (upS S6 (B + 143) (.inl 5)) (zM M6 (B + 143)) (B + 143 + 1) (B + 143) (nI 8)).bind _) = _ ∧ _
  rw [bind_of e7, pF_of s7]
  obtain ⟨S8, M8, e8, h8, g8⟩ := new_W (n := n) (S := S7) (M := uR M7 B 5 (some (B + 143))) (w := B + 145) (cap := 256) (by decide)
  have s8 : S8 B = some (.inl 6) := by rw [(g8 B (by omega)).1]; exact s7
  show ∃ S' M', ((fX5_init n (upS S7 (B + 145) (.inl 5)) (zM (uR M7 B 5 (some (B + 143))) (B + 145)) (B + 145 + 1) (B + 145) (nI 256)).bind _) = _ ∧ _
  rw [bind_of e8, pF_of s8, show (24 : Int32) = nI 24 from rfl, nAF s8 (by show B < B + 145 + 2; omega) (by decide)]
  show ∃ S' M', iter 6 _ (0, upS S8 (B + 147) (.inr (0, 24)), uR (zM (uR M8 B 6 (some (B + 145))) (B + 147)) B 7 (some (B + 147)), B + 148) = _ ∧ _
  have g9 : Gq (fun b => b ≠ B ∧ b < B + 147) S8 M8 (upS S8 (B + 147) (.inr (0, 24))) (uR (zM (uR M8 B 6 (some (B + 145))) (B + 147)) B 7 (some (B + 147))) := ((Gq.uR (fun b hb => hb.1)).tr (Gq.up (fun b hb => by omega))).tr (Gq.uR (fun b hb => hb.1))
  have g89 : Gq (fun b => b ≠ B ∧ b < B + 145) S7 M7 (upS S8 (B + 147) (.inr (0, 24))) (uR (zM (uR M8 B 6 (some (B + 145))) (B + 147)) B 7 (some (B + 147))) := ((Gq.uR (fun b hb => hb.1)).tr (g8.mono (fun b hb => hb.2))).tr (g9.mono (fun b hb => by omega))
  have g69 : Gq (fun b => b ≠ B ∧ b < B + 143) S6 M6 (upS S8 (B + 147) (.inr (0, 24))) (uR (zM (uR M8 B 6 (some (B + 145))) (B + 147)) B 7 (some (B + 147))) := (g7.mono (fun b hb => hb.2)).tr (g89.mono (fun b hb => by omega))
  have g59 : Gq (fun b => b ≠ B ∧ b < B + 142) S5 M5 (upS S8 (B + 147) (.inr (0, 24))) (uR (zM (uR M8 B 6 (some (B + 145))) (B + 147)) B 7 (some (B + 147))) := g6.tr (g69.mono (fun b hb => by omega))
  have g39 : Gq (fun b => b ≠ B ∧ b < B + 141) S3 M4 (upS S8 (B + 147) (.inr (0, 24))) (uR (zM (uR M8 B 6 (some (B + 145))) (B + 147)) B 7 (some (B + 147))) := g5.tr (g59.mono (fun b hb => by omega))
  have f8 : ∀ k, k < 5 → M8.2.1 B k = M6.2.1 B k := fun k hk => by rw [(g8 B (by omega)).2.2, uR_row (by omega), (g7 B (by omega)).2.2]
  have f85 : M8.2.1 B 5 = some (B + 143) := by rw [(g8 B (by omega)).2.2, uR_same]
  have f9 : ∀ k, k < 6 → (uR (zM (uR M8 B 6 (some (B + 145))) (B + 147)) B 7 (some (B + 147))).2.1 B k = M8.2.1 B k := fun k hk => by rw [uR_row (by omega), zM_2o (by omega), uR_row (by omega)]
  have f96 : (uR (zM (uR M8 B 6 (some (B + 145))) (B + 147)) B 7 (some (B + 147))).2.1 B 6 = some (B + 145) := by rw [uR_row (by omega), zM_2o (by omega), uR_same]
  have f97 : (uR (zM (uR M8 B 6 (some (B + 145))) (B + 147)) B 7 (some (B + 147))).2.1 B 7 = some (B + 147) := uR_same
  have f94 : (uR (zM (uR M8 B 6 (some (B + 145))) (B + 147)) B 7 (some (B + 147))).1 B 4 = 0 := by rw [uR_1, zM_1o (by omega), uR_1, (g8 B (by omega)).2.1, uR_1, (g7 B (by omega)).2.1]; exact f64
  have s9 : upS S8 (B + 147) (.inr (0, 24)) B = some (.inl 6) := by rw [upS_o (by omega)]; exact s8
  have a9 : upS S8 (B + 147) (.inr (0, 24)) (B + 147) = some (.inr (0, 24)) := upS_s
  generalize uR (zM (uR M8 B 6 (some (B + 145))) (B + 147)) B 7 (some (B + 147)) = M9 at *
  generalize upS S8 (B + 147) (.inr (0, 24)) = S9 at *
  have hX9 : XL S9 M9.2.1 B := by
    have q8 := g39 (B + 138) (by omega)
    refine ⟨s9, ⟨?_, ?_, ?_, ?_, ?_, f96, f97⟩, ⟨by rw [q8.1]; exact ring3.1, by rw [q8.2.2]; exact ring3.2.1, by rw [q8.2.2]; exact ring3.2.2.1, by rw [q8.2.2]; exact ring3.2.2.2.1, by rw [(g39 (B + 139) (by omega)).1]; exact ring3.2.2.2.2.1, by rw [(g39 (B + 140) (by omega)).1]; exact ring3.2.2.2.2.2⟩, ⟨by rw [(g59 (B + 141) (by omega)).1]; exact grid5.1, by rw [(g59 (B + 141) (by omega)).2.2]; exact grid5.2⟩, by rw [(g69 (B + 142) (by omega)).1]; exact a6, a9⟩
    · rw [f9 0 (by decide), f8 0 (by decide), f6 0 (by decide)]; exact f50
    · rw [f9 1 (by decide), f8 1 (by decide), f6 1 (by decide)]; exact f51
    · rw [f9 2 (by decide), f8 2 (by decide), f6 2 (by decide)]; exact f52
    · rw [f9 3 (by decide), f8 3 (by decide)]; exact f63
    · rw [f9 5 (by decide)]; exact f85
  have hS9 := h1'.gq g39 (fun b x y => by omega)
  have hW9 := h7.gq g89 (by omega) (by omega)
  have hV9 := h8.gq g9 (by omega) (by omega)
  clear g39 g59 g69 g89 g9 f8 f9 f6 g6 g5 g3' h1' h1 g1 g3 h3 g7 h7 g8 h8
  obtain ⟨r, er, hr⟩ := iter_inv (n := 6) (f := fun s : Int32 × Sp × Mm × Nat => fX6_init_98b n B s.1 s.2.1 s.2.2.1 s.2.2.2) 5 (fun j s => s.1 = nI j ∧ s.2.2.2 = B + 148 + 137 * j ∧ Gq (fun b => b < B + 148 ∧ b ≠ B + 142) S9 M9 s.2.1 s.2.2.1 ∧ s.2.1 (B + 142) = some (.inr (5, 5)) ∧ ∀ i, i < j → s.2.2.1.2.1 (B + 142) i = some (B + 148 + 137 * i) ∧ CSc s.2.1 s.2.2.1 (B + 148 + 137 * i) z0) (fun r => ∃ S' M', r = (S', M', B + 833) ∧ CX S' M' B z0 [] []) (fun j s hj hI => by
    obtain ⟨v, S0, M0, nx⟩ := s
    obtain ⟨rfl, rfl, hG, h4, hi⟩ := hI
    dsimp only at hG h4 hi ⊢
    have gB := hG B (by omega)
    unfold fX6_init_98b
    by_cases h5 : j < 5
    · obtain ⟨S1, M1, e1, r1, g1⟩ := new_S (n := n) (S := S0) (M := M0) (σ := B + 148 + 137 * j) hn
      rw [if_pos (lt5 h5), gF_of (by rw [gB.1]; exact hX9.1) (by rw [gB.2.2]; exact hX9.2.1.2.2.2.1)]
      show (_ ∧ ∃ s', (fX3_init n (upS S0 (B + 148 + 137 * j) (.inl 3)) (zM M0 (B + 148 + 137 * j)) (B + 148 + 137 * j + 1) (B + 148 + 137 * j)).bind _ = _ ∧ _) ∨ _
      have h41 : S1 (B + 142) = some (.inr (5, 5)) := by rw [(g1 (B + 142) (by omega)).1]; exact h4
      rw [bind_of e1, sR_nI h41 h5 (by decide) r1.1.1]
      refine Or.inl ⟨h5, _, rfl, nI_add1 j, (by omega : B + 148 + 137 * j + 137 = B + 148 + 137 * (j + 1)), hG.tr ((g1.mono (fun b hb => by omega)).tr (Gq.uR (fun b hb => by omega))), h41, fun i hij => ?_⟩
      dsimp only
      by_cases c : i = j
      · subst c
        exact ⟨uR_same, CS.gq r1 (Gq.uR (P := fun b => b ≠ B + 142) (fun b hb => hb)) (fun b x y => by omega)⟩
      · obtain ⟨p1, p2⟩ := hi i (by omega)
        exact ⟨by rw [uR_row c, (g1 (B + 142) (by omega)).2.2]; exact p1, CS.gq (CS.gq p2 g1 (fun b x y => by omega)) (Gq.uR (P := fun b => b ≠ B + 142) (fun b hb => hb)) (fun b x y => by omega)⟩
    · obtain rfl : j = 5 := by omega
      rw [if_neg (show ¬ nI 5 < 5 by decide)]
      obtain ⟨x1, x2, x3, x4, x5, x6⟩ := hX9
      have q8 := hG (B + 138) (by omega)
      refine Or.inr ⟨_, rfl, S0, M0, rfl, ⟨by rw [gB.1]; exact x1, by rw [gB.2.2]; exact x2, ⟨by rw [q8.1]; exact x3.1, by rw [q8.2.2]; exact x3.2.1, by rw [q8.2.2]; exact x3.2.2.1, by rw [q8.2.2]; exact x3.2.2.2.1, by rw [(hG (B + 139) (by omega)).1]; exact x3.2.2.2.2.1, by rw [(hG (B + 140) (by omega)).1]; exact x3.2.2.2.2.2⟩, ⟨by rw [(hG (B + 141) (by omega)).1]; exact x4.1, by rw [(hG (B + 141) (by omega)).2.2]; exact x4.2⟩, h4, by rw [(hG (B + 147) (by omega)).1]; exact x6⟩, CS.gq hS9 hG (fun b x y => by omega), ⟨by rw [gB.2.1]; exact f94, Nat.zero_le _⟩, ⟨fun k hk => ⟨z0, (hi k hk).2⟩, id, fun i hi => hi, fun _ _ _ _ e => e, fun i hh => (hi i hh).1, fun i x hx => absurd hx (by simp)⟩, hW9.gq hG (by omega) (by omega), [], hV9.gq hG (by omega) (by omega)⟩) (show 5 < 6 by decide) (s := (0, S9, M9, B + 148)) ⟨rfl, rfl, Gq.rf, hX9.2.2.2.2.1, fun i hi => absurd hi (by omega)⟩
  obtain ⟨S', M', rfl, h1⟩ := hr
  exact ⟨S', M', er, h1⟩
end NEWO
