/-! ===== LEVEL 2: a new tree, its rounds ===== -/
/-- the table with nothing in it but the root -/
noncomputable def A0 : At := bgA (fun _ => bgv (-1)) 0 0
section NEWT2
variable {S : Sp} {M : Mm} {n t : Nat}
theorem new_T (hn : 24 < n) : ∃ S' M', fX4_init n (upS S t (.inl 4)) (zM M t) (t + 1) t = some (S', M', t + 109) ∧ CT S' M' t A0 (fun _ => []) (fun _ _ => []) ∧ M'.1 t 9 = 0 ∧ Gq (fun b => b < t) S M S' M' := by
  rw [S4_init]
  have hL0 := S4_LT (S := S) (M := M) (t := t)
  have hg0 := S4_gq (S := S) (M := M) (t := t)
  have h90 := M4_9 (M := M) (t := t)
  generalize S4 S t = Sx at *
  generalize M4b M t = Mx at *
  obtain ⟨Sa, Ma, ea, ra, ga⟩ := new_W (n := n) (S := Sx) (M := Mx) (w := t + 11) (cap := 0) (by decide)
  have hLa : LT0 Sa Ma.2.1 t := hL0.gq ga (fun b h1 h2 => by omega)
  show ∃ S' M', ((fX5_init n (upS Sx (t + 11) (.inl 5)) (zM Mx (t + 11)) (t + 11 + 1) (t + 11) (nI 0)).bind _) = _ ∧ _
  rw [bind_of ea, pF_of hLa.1]
  have hLb : LT0 Sa (uR Ma t 11 (some (t + 11))).2.1 t := by
    obtain ⟨a1, ⟨b0, b1, b2, b3, b4, b5, b6, b7, b8, b9⟩, cc⟩ := hLa
    exact ⟨a1, ⟨by rw [uR_row (by decide)]; exact b0, by rw [uR_row (by decide)]; exact b1, by rw [uR_row (by decide)]; exact b2, by rw [uR_row (by decide)]; exact b3, by rw [uR_row (by decide)]; exact b4, by rw [uR_row (by decide)]; exact b5, by rw [uR_row (by decide)]; exact b6, by rw [uR_row (by decide)]; exact b7, by rw [uR_row (by decide)]; exact b8, by rw [uR_row (by decide)]; exact b9⟩, cc⟩
  have hgb : Gq (fun b => b < t) S M Sa (uR Ma t 11 (some (t + 11))) := (hg0.tr (ga.mono (fun b hb => by omega))).tr (Gq.uR (fun b hb => by omega))
  have h9b : (uR Ma t 11 (some (t + 11))).1 t 9 = 0 := by rw [uR_1, (ga t (by omega)).2.1]; exact h90
  have h11 : (uR Ma t 11 (some (t + 11))).2.1 t 11 = some (t + 11) := uR_same
  have hrb : WR Sa (uR Ma t 11 (some (t + 11))) (t + 11) 0 [] := ra.gq (Gq.uR (P := fun b => t < b) (fun b hb => by omega)) (by omega) (by omega)
  generalize uR Ma t 11 (some (t + 11)) = Mb at *
  obtain ⟨r, er, hr⟩ := iter_inv (n := 25) (f := fun s : Int32 × Sp × Mm × Nat => fX4_init_106b n t s.1 s.2.1 s.2.2.1 s.2.2.2) 24 (fun j s => s.1 = nI j ∧ s.2.2.2 = t + 13 + 4 * j ∧ LT0 s.2.1 s.2.2.1.2.1 t ∧ Gq (fun b => b ≤ t ∨ b = t + 11 ∨ b = t + 12) Sa Mb s.2.1 s.2.2.1 ∧ ∀ i, i < j → s.2.2.1.2.1 (t + 7) i = some (t + 13 + 4 * i) ∧ s.2.2.1.2.1 (t + 8) i = some (t + 15 + 4 * i) ∧ WR s.2.1 s.2.2.1 (t + 13 + 4 * i) 8 [] ∧ WR s.2.1 s.2.2.1 (t + 15 + 4 * i) 8 [] ∧ R0 s.2.2.1.1 t i) (fun r => ∃ S' M', r = (S', M', t + 109) ∧ CT S' M' t A0 (fun _ => []) (fun _ _ => []) ∧ M'.1 t 9 = 0 ∧ Gq (fun b => b < t) S M S' M') (fun j s hj hI => by
    obtain ⟨v, S0, M0, nx⟩ := s
    obtain ⟨rfl, rfl, hL, hg, hi⟩ := hI
    dsimp only at hL hg hi ⊢
    unfold fX4_init_106b
    by_cases h24 : j < 24
    · obtain ⟨S1, M1, e1, r1, g1⟩ := new_W (n := n) (S := S0) (M := M0) (w := t + 13 + 4 * j) (cap := 8) (by decide)
      have hL1 : LT0 S1 M1.2.1 t := hL.gq g1 (fun b h1 h2 => by omega)
      have gu1 : Gq (fun b => b ≠ t + 7) S1 M1 S1 (uR M1 (t + 7) j (some (t + 13 + 4 * j))) := Gq.uR (fun b hb => hb)
      have hL2 : LT0 S1 (uR M1 (t + 7) j (some (t + 13 + 4 * j))).2.1 t := by
        obtain ⟨a1, bb, cc⟩ := hL1
        exact ⟨a1, by rw [uR_off (by omega)]; exact bb, cc⟩
      rw [if_pos (lt24 h24), gF_of hL.1 hL.2.1.2.2.2.2.2.2.1]
      show (_ ∧ ∃ s', (fX5_init n (upS S0 (t + 13 + 4 * j) (.inl 5)) (zM M0 (t + 13 + 4 * j)) (t + 13 + 4 * j + 1) (t + 13 + 4 * j) (nI 8)).bind _ = _ ∧ _) ∨ _
      rw [bind_of e1, sR_nI hL1.2.2.2.2.2.2.2.2.1 h24 (by decide) r1.1, gF_of hL2.1 hL2.2.1.2.2.2.2.2.2.2.1]
      obtain ⟨S3, M3, e3, r3, g3⟩ := new_W (n := n) (S := S1) (M := uR M1 (t + 7) j (some (t + 13 + 4 * j))) (w := t + 13 + 4 * j + 2) (cap := 8) (by decide)
      have hL3 : LT0 S3 M3.2.1 t := hL2.gq g3 (fun b h1 h2 => by omega)
      show (_ ∧ ∃ s', (fX5_init n (upS S1 (t + 13 + 4 * j + 2) (.inl 5)) (zM (uR M1 (t + 7) j (some (t + 13 + 4 * j))) (t + 13 + 4 * j + 2)) (t + 13 + 4 * j + 2 + 1) (t + 13 + 4 * j + 2) (nI 8)).bind _ = _ ∧ _) ∨ _
      rw [bind_of e3, sR_nI hL3.2.2.2.2.2.2.2.2.2.1 h24 (by decide) r3.1]
      have gu3 : Gq (fun b => b ≠ t + 8) S3 M3 S3 (uR M3 (t + 8) j (some (t + 13 + 4 * j + 2))) := Gq.uR (fun b hb => hb)
      have hL4 : LT0 S3 (uR M3 (t + 8) j (some (t + 13 + 4 * j + 2))).2.1 t := by
        obtain ⟨a1, bb, cc⟩ := hL3
        exact ⟨a1, by rw [uR_off (by omega)]; exact bb, cc⟩
      have G : Gq (fun b => b < t + 13 + 4 * j ∧ b ≠ t + 7 ∧ b ≠ t + 8) S0 M0 S3 (uR M3 (t + 8) j (some (t + 13 + 4 * j + 2))) := ((g1.mono (fun b hb => by omega)).tr (gu1.mono (fun b hb => by omega))).tr ((g3.mono (fun b hb => by omega)).tr (gu3.mono (fun b hb => by omega)))
      have m1 : ∀ b, b < t + 13 + 4 * j → (uR M3 (t + 8) j (some (t + 13 + 4 * j + 2))).1 b = M0.1 b := fun b hb => by rw [uR_1, (g3 b (by omega)).2.1, uR_1, (g1 b (by omega)).2.1]
      have x1 : (uR M3 (t + 8) j (some (t + 13 + 4 * j + 2))).2.1 (t + 7) j = some (t + 13 + 4 * j) := by rw [uR_off (by omega), (g3 (t + 7) (by omega)).2.2, uR_same]
      have x2 : (uR M3 (t + 8) j (some (t + 13 + 4 * j + 2))).2.1 (t + 8) j = some (t + 13 + 4 * j + 2) := uR_same
      have x3 : ∀ i, i < j → (uR M3 (t + 8) j (some (t + 13 + 4 * j + 2))).2.1 (t + 7) i = M0.2.1 (t + 7) i := fun i hi => by rw [uR_off (by omega), (g3 (t + 7) (by omega)).2.2, uR_row (by omega), (g1 (t + 7) (by omega)).2.2]
      have x4 : ∀ i, i < j → (uR M3 (t + 8) j (some (t + 13 + 4 * j + 2))).2.1 (t + 8) i = M0.2.1 (t + 8) i := fun i hi => by rw [uR_row (by omega), (g3 (t + 8) (by omega)).2.2, uR_off (by omega), (g1 (t + 8) (by omega)).2.2]
      have y1 : WR S3 (uR M3 (t + 8) j (some (t + 13 + 4 * j + 2))) (t + 13 + 4 * j) 8 [] := ((r1.gq gu1 (by omega) (by omega)).gq g3 (by omega) (by omega)).gq gu3 (by omega) (by omega)
      have y2 : WR S3 (uR M3 (t + 8) j (some (t + 13 + 4 * j + 2))) (t + 13 + 4 * j + 2) 8 [] := r3.gq gu3 (by omega) (by omega)
      generalize uR M3 (t + 8) j (some (t + 13 + 4 * j + 2)) = M4 at *
      obtain ⟨M5, e5, a5, z1, z2, z3, z4⟩ := i_begin (n := n) hL4 h24 (by omega) x1 x2 y1 y2 (by omega) (by omega)
      rw [chk_pos hL4.1, bind_of e5]
      have ga5 : Gq (fun b => ¬ ((t + 1 ≤ b ∧ b ≤ t + 10) ∨ (t + 13 + 4 * j ≤ b ∧ b ≤ t + 13 + 4 * j + 2 + 1))) S3 M4 S3 M5 := Gq.ai a5 (fun b hb => hb)
      have R5 : M5.2.1 = M4.2.1 := by rw [a5.1]
      refine Or.inl ⟨h24, _, rfl, nI_add1 j, (by omega : t + 13 + 4 * j + 2 + 2 = t + 13 + 4 * (j + 1)), by show LT0 S3 M5.2.1 t; rw [R5]; exact hL4, hg.tr ((G.mono (fun b hb => by omega)).tr (ga5.mono (fun b hb => by omega))), fun i hij => ?_⟩
      dsimp only
      rw [R5]
      by_cases c : i = j
      · subst c
        exact ⟨x1, by rw [show t + 15 + 4 * i = t + 13 + 4 * i + 2 by omega]; exact x2, z1, by rw [show t + 15 + 4 * i = t + 13 + 4 * i + 2 by omega]; exact z2, z3⟩
      · obtain ⟨q1, q2, q3, q4, q5⟩ := hi i (by omega)
        refine ⟨by rw [x3 i (by omega)]; exact q1, by rw [x4 i (by omega)]; exact q2, (q3.gq G (by omega) (by omega)).gq ga5 (by omega) (by omega), (q4.gq G (by omega) (by omega)).gq ga5 (by omega) (by omega), z4 i c ?_⟩
        unfold R0 at q5 ⊢
        rw [m1 _ (by omega), m1 _ (by omega), m1 _ (by omega), m1 _ (by omega), m1 _ (by omega), m1 _ (by omega), m1 _ (by omega)]
        exact q5
    · obtain rfl : j = 24 := by omega
      have gt := hg t (by omega)
      have hT : CT S0 M0 t (fun _ => bgv (-1)) (fun _ => []) (fun _ _ => []) := by
        obtain ⟨a1, ⟨b0, b1, b2, b3, b4, b5, b6, b7, b8, b9⟩, cc⟩ := hL
        refine ⟨⟨a1, ⟨b0, b1, b2, b3, b4, b5, b6, b7, b8, b9, by rw [gt.2.2]; exact h11⟩, cc, fun i hh => ⟨(hi i hh).1, (hi i hh).2.1⟩⟩, fun i hh => ?_, fun i hh => ⟨(hi i hh).2.2.1, (hi i hh).2.2.2.1⟩, hrb.gq hg (by omega) (by omega)⟩
        obtain ⟨p1, p2, p3, p4, p5, p6, p7⟩ := (hi i hh).2.2.2.2
        refine ⟨p1, p2, p3, p4, p5, p6, fun s hs => ?_, Nat.zero_le _, fun k hk => absurd hk (by simp)⟩
        rw [p7 s hs]
        unfold bgv
        dsimp only
        rw [if_neg (by omega), if_neg (by omega), if_neg (by omega), if_neg (by omega)]
      obtain ⟨M5, e5, h5, a5⟩ := c_begin (n := n) hT hn (j := 0) (by decide) 0
      rw [if_neg (show ¬ nI 24 < 24 by decide), chk_pos hL.1, show fX4_begin n S0 M0 t 0 0 = some M5 from e5]
      refine Or.inr ⟨_, rfl, S0, M5, rfl, h5.cong (fun _ _ _ _ => rfl) (fun i _ => ?_) (fun i _ => ?_), ?_, ?_⟩
      · unfold sK; split <;> rfl
      · unfold bgW; split <;> exact ⟨rfl, rfl⟩
      · rw [a5.2 t (by unfold TS; omega), gt.2.1]; exact h9b
      · exact hgb.tr ((hg.mono (fun b hb => by omega)).tr (Gq.ai a5 (fun b hb => by unfold TS; omega)))) (show 24 < 25 by decide) (s := (0, Sa, Mb, t + 11 + 2)) ⟨rfl, rfl, hLb, Gq.rf, fun i hi => absurd hi (by omega)⟩
  obtain ⟨S', M', rfl, h1, h2, h3⟩ := hr
  exact ⟨S', M', er, h1, h2, h3⟩
end NEWT2
