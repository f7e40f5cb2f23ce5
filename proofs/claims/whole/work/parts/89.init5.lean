/-! ===== LEVEL 2: a new scene, a new ring ===== -/
section NEWX
variable {P : Nat → Prop} {S S1 : Sp} {M M1 : Mm} {n t q σ ρ : Nat} {A : At} {K : Kt} {W : Wt} {Q : List QI} {sp : List Int32} {fo rd la : Int32}
theorem CT.gq (h : CT S M t A K W) (g : Gq P S M S1 M1) (hp : ∀ b, t ≤ b → b < t + 109 → P b) : CT S1 M1 t A K W := by
  obtain ⟨⟨l1, l2, ⟨c0, c1, c2, c3, c4, c5, c6, c7, c8, c9⟩, l4⟩, h2, h3, h4⟩ := h
  have f : ∀ b, t ≤ b → b < t + 109 → S1 b = S b := fun b x y => (g b (hp b x y)).1
  have m : ∀ b, t ≤ b → b < t + 109 → M1.1 b = M.1 b := fun b x y => (g b (hp b x y)).2.1
  have r : ∀ b, t ≤ b → b < t + 109 → M1.2.1 b = M.2.1 b := fun b x y => (g b (hp b x y)).2.2
  refine ⟨⟨by rw [f t (by omega) (by omega)]; exact l1, by rw [r t (by omega) (by omega)]; exact l2, ?_, fun i hi => ?_⟩, fun i hi => ?_, fun i hi => ?_, h4.gq g (hp _ (by omega) (by omega)) (hp _ (by omega) (by omega))⟩
  · rw [f _ (by omega) (by omega), f _ (by omega) (by omega), f _ (by omega) (by omega), f _ (by omega) (by omega), f _ (by omega) (by omega), f _ (by omega) (by omega), f _ (by omega) (by omega), f _ (by omega) (by omega), f _ (by omega) (by omega), f _ (by omega) (by omega)]
    exact ⟨c0, c1, c2, c3, c4, c5, c6, c7, c8, c9⟩
  · rw [r (t + 7) (by omega) (by omega), r (t + 8) (by omega) (by omega)]; exact l4 i hi
  · obtain ⟨q1, q2, q3, q4, q5, q6, q7, q8, q9⟩ := h2 i hi
    exact ⟨by rw [m _ (by omega) (by omega)]; exact q1, by rw [m _ (by omega) (by omega)]; exact q2, by rw [m _ (by omega) (by omega)]; exact q3, by rw [m _ (by omega) (by omega)]; exact q4, by rw [m _ (by omega) (by omega)]; exact q5, by rw [m _ (by omega) (by omega)]; exact q6, fun s hs => by rw [m _ (by omega) (by omega)]; exact q7 s hs, q8, fun k hk => by rw [m _ (by omega) (by omega)]; exact q9 k hk⟩
  · obtain ⟨g0, g1⟩ := h3 i hi
    exact ⟨g0.gq g (hp _ (by omega) (by omega)) (hp _ (by omega) (by omega)), g1.gq g (hp _ (by omega) (by omega)) (hp _ (by omega) (by omega))⟩
theorem QR.gq (h : QR S M q Q) (g : Gq P S M S1 M1) (hp : ∀ b, q ≤ b → b < q + 25 → P b) : QR S1 M1 q Q := by
  obtain ⟨⟨a1, a2, a3, a4, a5, a6⟩, h2, h3, h4, p, p1, p2, p3, p4⟩ := h
  have f : ∀ b, q ≤ b → b < q + 25 → S1 b = S b := fun b x y => (g b (hp b x y)).1
  have m : ∀ b, q ≤ b → b < q + 25 → M1.1 b = M.1 b := fun b x y => (g b (hp b x y)).2.1
  have r : ∀ b, q ≤ b → b < q + 25 → M1.2.1 b = M.2.1 b := fun b x y => (g b (hp b x y)).2.2
  refine ⟨⟨by rw [f _ (by omega) (by omega)]; exact a1, by rw [r _ (by omega) (by omega)]; exact a2, by rw [f _ (by omega) (by omega)]; exact a3, by rw [f _ (by omega) (by omega)]; exact a4, by rw [f _ (by omega) (by omega)]; exact a5, by rw [f _ (by omega) (by omega)]; exact a6⟩, by rw [m _ (by omega) (by omega)]; exact h2, h3, fun k hk => ?_, p, p1, p2, fun i hi => by rw [r _ (by omega) (by omega)]; exact p3 i hi, fun i x hx => ?_⟩
  · obtain ⟨l, hl⟩ := h4 k hk
    exact ⟨l, hl.gq g (hp _ (by omega) (by omega)) (hp _ (by omega) (by omega))⟩
  · have hi := (List.getElem?_eq_some_iff.mp hx).1
    have := p1 i (by omega)
    obtain ⟨b1, b2, b3, b4⟩ := p4 i x hx
    exact ⟨by rw [m _ (by omega) (by omega)]; exact b1, by rw [m _ (by omega) (by omega)]; exact b2, by rw [m _ (by omega) (by omega)]; exact b3, b4.gq g (hp _ (by omega) (by omega)) (hp _ (by omega) (by omega))⟩
theorem CS.gq (h : CS S M σ A K W Q sp fo rd la) (g : Gq P S M S1 M1) (hp : ∀ b, σ ≤ b → b < σ + 137 → P b) : CS S1 M1 σ A K W Q sp fo rd la := by
  obtain ⟨⟨a1, a2, a3, a4⟩, h2, h3, h4, h5, h6, h7⟩ := h
  have g0 := g σ (hp _ (by omega) (by omega))
  exact ⟨⟨by rw [g0.1]; exact a1, by rw [g0.2.2]; exact a2, by rw [g0.2.2]; exact a3, by rw [g0.2.2]; exact a4⟩, h2.gq g (fun b x y => hp b (by omega) (by omega)), by rw [(g (σ + 1) (hp _ (by omega) (by omega))).2.1]; exact h3, h4.gq g (fun b x y => hp b (by omega) (by omega)), h5.gq g (hp _ (by omega) (by omega)) (hp _ (by omega) (by omega)), by rw [g0.2.1]; exact h6, by rw [g0.2.1]; exact h7⟩
theorem new_S (hn : 24 < n) : ∃ S' M', fX3_init n (upS S σ (.inl 3)) (zM M σ) (σ + 1) σ = some (S', M', σ + 137) ∧ CS S' M' σ A0 (fun _ => []) (fun _ _ => []) [] [] (-1) (-1) 0 ∧ Gq (fun b => b < σ) S M S' M' := by
  unfold fX3_init
  obtain ⟨S1, M1, e1, h1, k1, g1⟩ := new_T (n := n) (S := upS S σ (.inl 3)) (M := zM M σ) (t := σ + 1) hn
  have s1 : S1 σ = some (.inl 3) := by rw [(g1 σ (by omega)).1]; exact upS_s
  show ∃ S' M', ((fX4_init n (upS (upS S σ (.inl 3)) (σ + 1) (.inl 4)) (zM (zM M σ) (σ + 1)) (σ + 1 + 1) (σ + 1)).bind _) = _ ∧ _
  rw [bind_of e1, pF_of s1]
  obtain ⟨S3, M3, e3, h3, g3⟩ := new_Q (n := n) (S := S1) (M := uR M1 σ 0 (some (σ + 1))) (q := σ + 110) hn
  have s3 : S3 σ = some (.inl 3) := by rw [(g3 σ (by omega)).1]; exact s1
  show ∃ S' M', ((fX1_init n (upS S1 (σ + 110) (.inl 1)) (zM (uR M1 σ 0 (some (σ + 1))) (σ + 110)) (σ + 110 + 1) (σ + 110)).bind _) = _ ∧ _
  rw [bind_of e3, pF_of s3]
  obtain ⟨S5, M5, e5, h5, g5⟩ := new_W (n := n) (S := S3) (M := uR M3 σ 1 (some (σ + 110))) (w := σ + 135) (cap := 256) (by decide)
  have s5 : S5 σ = some (.inl 3) := by rw [(g5 σ (by omega)).1]; exact s3
  show ∃ S' M', ((fX5_init n (upS S3 (σ + 135) (.inl 5)) (zM (uR M3 σ 1 (some (σ + 110))) (σ + 135)) (σ + 135 + 1) (σ + 135) (nI 256)).bind _) = _ ∧ _
  rw [bind_of e5, pF_of s5, pI_of s5, pI_of s5]
  have ge : Gq (fun b => b ≠ σ) S5 M5 S5 (uI (uI (uR M5 σ 2 (some (σ + 135))) σ 3 (-1)) σ 4 (-1)) := ((Gq.uR (fun b hb => hb)).tr (Gq.uI (fun b hb => hb))).tr (Gq.uI (fun b hb => hb))
  have gb : Gq (fun b => b ≠ σ ∧ b < σ + 135) S3 M3 S5 (uI (uI (uR M5 σ 2 (some (σ + 135))) σ 3 (-1)) σ 4 (-1)) := ((Gq.uR (fun b hb => hb.1)).tr (g5.mono (fun b hb => hb.2))).tr (ge.mono (fun b hb => hb.1))
  have ga : Gq (fun b => b ≠ σ ∧ b < σ + 110) S1 M1 S5 (uI (uI (uR M5 σ 2 (some (σ + 135))) σ 3 (-1)) σ 4 (-1)) := ((Gq.uR (fun b hb => hb.1)).tr (g3.mono (fun b hb => hb.2))).tr (gb.mono (fun b hb => by omega))
  refine ⟨S5, _, rfl, ⟨⟨s5, ?_, ?_, ?_⟩, h1.gq ga (fun b x y => by omega), ?_, h3.gq gb (fun b x y => by omega), h5.gq ge (by omega) (by omega), ?_, ?_⟩, ?_⟩
  · rw [uI_2, uI_2, uR_row (by decide), (g5 σ (by omega)).2.2, uR_row (by decide), (g3 σ (by omega)).2.2, uR_same]
  · rw [uI_2, uI_2, uR_row (by decide), (g5 σ (by omega)).2.2, uR_same]
  · rw [uI_2, uI_2, uR_same]
  · rw [(ga (σ + 1) (by omega)).2.1]; exact k1
  · rw [uI_row (by decide), uI_same]
  · rw [uI_same]
  · exact ((Gq.up (fun b hb => by omega)).tr (g1.mono (fun b hb => by omega))).tr (ga.mono (fun b hb => by omega))
theorem new_R {x : Nat} : ∃ S' M', fX2_init n (upS S ρ (.inl 2)) (zM M ρ) (ρ + 1) ρ x = some (S', M', ρ + 3) ∧ (S' ρ = some (.inl 2) ∧ M'.2.1 ρ 0 = some x ∧ M'.2.1 ρ 1 = some (ρ + 1) ∧ M'.2.1 ρ 2 = some (ρ + 2) ∧ S' (ρ + 1) = some (.inr (0, 24)) ∧ S' (ρ + 2) = some (.inr (0, 24))) ∧ Gq (fun b => b < ρ) S M S' M' := by
  unfold fX2_init
  rw [show (24 : Int32) = nI 24 from rfl, nAF upS_s (by omega) (by decide), nAF (by simp [upS, Nat.add_assoc]) (by omega) (by decide), pI_of (by simp [upS, Nat.add_assoc]), pF_of (by simp [upS, Nat.add_assoc])]
  refine ⟨_, _, rfl, ⟨by simp [upS, Nat.add_assoc], uR_same, ?_, ?_, by simp [upS, Nat.add_assoc], by simp [upS, Nat.add_assoc]⟩, ?_⟩
  · rw [uR_row (by decide), uI_2, uR_row (by decide), zM_2o (by omega), uR_same]
  · rw [uR_row (by decide), uI_2, uR_same]
  · refine Gq.tr ?_ ((Gq.uI (fun b hb => by omega)).tr (Gq.uR (fun b hb => by omega)))
    refine Gq.tr ?_ ((Gq.up (fun b hb => by omega)).tr (Gq.uR (fun b hb => by omega)))
    refine Gq.tr ?_ ((Gq.up (fun b hb => by omega)).tr (Gq.uR (fun b hb => by omega)))
    exact Gq.up (fun b hb => by omega)
end NEWX
