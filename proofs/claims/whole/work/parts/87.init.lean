/-! ===== LEVEL 2: what is newly made ===== -/
/-- kept where P holds -/
def Gq (P : Nat → Prop) (S : Sp) (M : Mm) (S' : Sp) (M' : Mm) : Prop := ∀ b, P b → S' b = S b ∧ M'.1 b = M.1 b ∧ M'.2.1 b = M.2.1 b
section NEW
variable {P P' : Nat → Prop} {S S1 S2 : Sp} {M M1 M2 M' : Mm} {a b w cap nx n t : Nat} {l : List Int32}
theorem Gq.rf : Gq P S M S M := fun _ _ => ⟨rfl, rfl, rfl⟩
theorem Gq.tr (h : Gq P S M S1 M1) (h' : Gq P S1 M1 S2 M2) : Gq P S M S2 M2 := fun b hb => ⟨(h' b hb).1.trans (h b hb).1, (h' b hb).2.1.trans (h b hb).2.1, (h' b hb).2.2.trans (h b hb).2.2⟩
theorem Gq.mono (h : Gq P S M S1 M1) (hp : ∀ b, P' b → P b) : Gq P' S M S1 M1 := fun b hb => h b (hp b hb)
theorem Gq.ai {Q : Nat → Prop} (h : AgI Q M M1) (hp : ∀ b, P b → ¬ Q b) : Gq P S M S M1 := fun b hb => ⟨rfl, h.2 b (hp b hb), by rw [h.1]⟩
theorem Gq.ag {Q : Nat → Prop} (h : Ag Q M M1) (hp : ∀ b, P b → ¬ Q b) : Gq P S M S M1 := fun b hb => ⟨rfl, (h.2 b (hp b hb)).1, (h.2 b (hp b hb)).2⟩
theorem WR.gq (h : WR S M w cap l) (g : Gq P S M S1 M1) (h1 : P w) (h2 : P (w + 1)) : WR S1 M1 w cap l := by
  obtain ⟨a1, a2, a3, a4, a5, a6, a7⟩ := h
  exact ⟨by rw [(g w h1).1]; exact a1, by rw [(g w h1).2.2]; exact a2, by rw [(g _ h2).1]; exact a3, by rw [(g w h1).2.1]; exact a4, a5, fun k hk => by rw [(g _ h2).2.1]; exact a6 k hk, a7⟩
theorem upS_s {x : Nat ⊕ (Nat × Nat)} : upS S a x a = some x := if_pos rfl
theorem upS_o {x : Nat ⊕ (Nat × Nat)} (h : b ≠ a) : upS S a x b = S b := if_neg h
theorem zM_1s : (zM M a).1 a = fun _ => 0 := if_pos rfl
theorem zM_1o (h : b ≠ a) : (zM M a).1 b = M.1 b := if_neg h
theorem zM_2o (h : b ≠ a) : (zM M a).2.1 b = M.2.1 b := if_neg h
theorem Gq.up {x : Nat ⊕ (Nat × Nat)} (h : ∀ b, P b → b ≠ a) : Gq P S M (upS S a x) (zM M a) := fun b hb => ⟨upS_o (h b hb), zM_1o (h b hb), zM_2o (h b hb)⟩
theorem Gq.uR {k : Nat} {v : Option Nat} (h : ∀ b, P b → b ≠ a) : Gq P S M S (uR M a k v) := fun b hb => ⟨rfl, rfl, uR_off (h b hb)⟩
theorem Gq.uI {k : Nat} {v : Int32} (h : ∀ b, P b → b ≠ a) : Gq P S M S (uI M a k v) := fun b hb => ⟨rfl, uI_off (h b hb), rfl⟩
theorem pF_of {ρ : Type} {ci k : Nat} {K : Mm → Option ρ} (hs : S a = some (.inl ci)) : pF S M a ci k b K = K (uR M a k (some b)) := by unfold pF; rw [chk_pos hs]
theorem nA_of {ρ : Type} {ti : Nat} {K : Sp → Mm → Nat → Option ρ} (hc : cap < 2 ^ 31) : nA S M nx ti cap (nI cap) K = K (upS S nx (.inr (ti, cap))) (zM M nx) (nx + 1) := by
  unfold nA
  rw [nI_clamp hc, chk_pos ⟨nI_pos hc, Nat.le_refl _⟩]
/-- a new array told to a field -/
theorem nAF {ρ : Type} {ci ti k : Nat} {K : Sp → Mm → Nat → Option ρ} (hs : S a = some (.inl ci)) (h : a < nx) (hc : cap < 2 ^ 31) : (nA S M nx ti cap (nI cap) fun S1 M1 n1 => pF S1 M1 a ci k nx fun M2 => K S1 M2 n1) = K (upS S nx (.inr (ti, cap))) (uR (zM M nx) a k (some nx)) (nx + 1) := by
  rw [nA_of hc, pF_of (by rw [upS_o (by omega)]; exact hs)]
theorem new_W (hc : cap ≤ 256) : ∃ S' M', fX5_init n (upS S w (.inl 5)) (zM M w) (w + 1) w (nI cap) = some (S', M', w + 2) ∧ WR S' M' w cap [] ∧ Gq (fun b => b < w) S M S' M' := by
  have hs : upS S w (.inl 5) w = some (.inl 5) := upS_s
  refine ⟨upS (upS S w (.inl 5)) (w + 1) (.inr (1, cap)), uR (zM (uI (zM M w) w 1 0) (w + 1)) w 0 (some (w + 1)), ?_, ?_, ?_⟩
  · unfold fX5_init
    rw [pI_of hs, if_neg (nI_pos (by omega))]
    unfold nA
    rw [nI_clamp (by omega), chk_pos ⟨nI_pos (by omega), hc⟩]
    exact pF_of (show upS (upS S w (.inl 5)) (w + 1) (.inr (1, cap)) w = _ by rw [upS_o (by omega)]; exact hs)
  · refine ⟨by rw [upS_o (by omega)]; exact hs, uR_same, upS_s, ?_, Nat.zero_le _, fun k hk => absurd hk (by simp), fun c hc => absurd hc (by simp)⟩
    rw [uR_1, zM_1o (by omega), uI_same]
    rfl
  · exact (((Gq.up (fun b hb => by omega)).tr (Gq.uI (fun b hb => by omega))).tr (Gq.up (fun b hb => by omega))).tr (Gq.uR (fun b hb => by omega))
-- the tree
def LT0 (Sh : Sp) (R : Nat → Nat → Option Nat) (t : Nat) : Prop := Sh t = some (.inl 4) ∧ (R t 0 = some (t + 1) ∧ R t 1 = some (t + 2) ∧ R t 2 = some (t + 3) ∧ R t 3 = some (t + 4) ∧ R t 4 = some (t + 5) ∧ R t 5 = some (t + 6) ∧ R t 6 = some (t + 7) ∧ R t 7 = some (t + 8) ∧ R t 8 = some (t + 9) ∧ R t 10 = some (t + 10)) ∧ (Sh (t + 1) = some (.inr (0, 24)) ∧ Sh (t + 2) = some (.inr (0, 24)) ∧ Sh (t + 3) = some (.inr (0, 24)) ∧ Sh (t + 4) = some (.inr (0, 576)) ∧ Sh (t + 5) = some (.inr (0, 24)) ∧ Sh (t + 6) = some (.inr (0, 120)) ∧ Sh (t + 7) = some (.inr (4, 24)) ∧ Sh (t + 8) = some (.inr (4, 24)) ∧ Sh (t + 9) = some (.inr (0, 24)) ∧ Sh (t + 10) = some (.inr (0, 24)))
def R0 (m : Nat → Nat → Int32) (t i : Nat) : Prop := m (t + 1) i = -1 ∧ m (t + 2) i = -1 ∧ m (t + 3) i = 0 ∧ m (t + 5) i = -1 ∧ m (t + 9) i = 0 ∧ m (t + 10) i = -1 ∧ ∀ s, s < 5 → m (t + 6) (5 * i + s) = 0
theorem LT0.gq (h : LT0 S M.2.1 t) (g : Gq P S M S1 M1) (hp : ∀ b, t ≤ b → b ≤ t + 10 → P b) : LT0 S1 M1.2.1 t := by
  obtain ⟨a1, ⟨b0, b1, b2, b3, b4, b5, b6, b7, b8, b9⟩, ⟨c0, c1, c2, c3, c4, c5, c6, c7, c8, c9⟩⟩ := h
  have e := (g t (hp _ (by omega) (by omega))).2.2
  have f : ∀ b, t ≤ b → b ≤ t + 10 → S1 b = S b := fun b h1 h2 => (g b (hp b h1 h2)).1
  refine ⟨by rw [f _ (by omega) (by omega)]; exact a1, ?_, ?_⟩
  · rw [e]; exact ⟨b0, b1, b2, b3, b4, b5, b6, b7, b8, b9⟩
  · rw [f _ (by omega) (by omega), f _ (by omega) (by omega), f _ (by omega) (by omega), f _ (by omega) (by omega), f _ (by omega) (by omega), f _ (by omega) (by omega), f _ (by omega) (by omega), f _ (by omega) (by omega), f _ (by omega) (by omega), f _ (by omega) (by omega)]
    exact ⟨c0, c1, c2, c3, c4, c5, c6, c7, c8, c9⟩
theorem i_begin {j w1 w2 : Nat} {l1 l2 : List Int32} (h : LT0 S M.2.1 t) (hj : j < 24) (hn : 5 < n) (h1 : M.2.1 (t + 7) j = some w1) (h2 : M.2.1 (t + 8) j = some w2) (r1 : WR S M w1 8 l1) (r2 : WR S M w2 8 l2) (o1 : t + 11 ≤ w1) (o2 : w1 + 1 < w2) : ∃ M', fX4_begin n S M t (nI j) (-1) = some M' ∧ AgI (fun a => (t + 1 ≤ a ∧ a ≤ t + 10) ∨ (w1 ≤ a ∧ a ≤ w2 + 1)) M M' ∧ WR S M' w1 8 [] ∧ WR S M' w2 8 [] ∧ R0 M'.1 t j ∧ ∀ i, i ≠ j → R0 M.1 t i → R0 M'.1 t i := by
  obtain ⟨a1, ⟨b0, b1, b2, b3, b4, b5, b6, b7, b8, b9⟩, ⟨c0, c1, c2, c3, c4, c5, c6, c7, c8, c9⟩⟩ := h
  unfold fX4_begin fX4_begin_41
  rw [if_neg (nI_pos (show j < 2 ^ 31 by omega)), if_pos (lt24 hj), tF_of b0, sI_nI c0 hj (by decide), tF_of (show (uI M (t + 1) j (-1)).2.1 t 1 = _ from b1), sI_nI c1 hj (by decide), tF_of (show (uI (uI M (t + 1) j (-1)) (t + 2) j (-1)).2.1 t 2 = _ from b2), sI_nI c2 hj (by decide), tF_of (show (uI (uI (uI M (t + 1) j (-1)) (t + 2) j (-1)) (t + 3) j 0).2.1 t 4 = _ from b4), sI_nI c4 hj (by decide)]
  have g4 : AgI (fun a => t + 1 ≤ a ∧ a ≤ t + 10) M (uI (uI (uI (uI M (t + 1) j (-1)) (t + 2) j (-1)) (t + 3) j 0) (t + 5) j (-1)) := ((agt (by omega)).tr (agt (by omega))).tr ((agt (by omega)).tr (agt (by omega)))
  have k1 : ∀ i, (uI (uI (uI (uI M (t + 1) j (-1)) (t + 2) j (-1)) (t + 3) j 0) (t + 5) j (-1)).1 (t + 1) i = if i = j then -1 else M.1 (t + 1) i := fun i => by
    rw [uI_off (by omega), uI_off (by omega), uI_off (by omega)]
    by_cases e : i = j
    · rw [if_pos e, e, uI_same]
    · rw [if_neg e, uI_row e]
  have k2 : ∀ i, (uI (uI (uI (uI M (t + 1) j (-1)) (t + 2) j (-1)) (t + 3) j 0) (t + 5) j (-1)).1 (t + 2) i = if i = j then -1 else M.1 (t + 2) i := fun i => by
    rw [uI_off (by omega), uI_off (by omega)]
    by_cases e : i = j
    · rw [if_pos e, e, uI_same]
    · rw [if_neg e, uI_row e, uI_off (by omega)]
  have k3 : ∀ i, (uI (uI (uI (uI M (t + 1) j (-1)) (t + 2) j (-1)) (t + 3) j 0) (t + 5) j (-1)).1 (t + 3) i = if i = j then 0 else M.1 (t + 3) i := fun i => by
    rw [uI_off (by omega)]
    by_cases e : i = j
    · rw [if_pos e, e, uI_same]
    · rw [if_neg e, uI_row e, uI_off (by omega), uI_off (by omega)]
  have k5 : ∀ i, (uI (uI (uI (uI M (t + 1) j (-1)) (t + 2) j (-1)) (t + 3) j 0) (t + 5) j (-1)).1 (t + 5) i = if i = j then -1 else M.1 (t + 5) i := fun i => by
    by_cases e : i = j
    · rw [if_pos e, e, uI_same]
    · rw [if_neg e, uI_row e, uI_off (by omega), uI_off (by omega), uI_off (by omega)]
  have k9 : ∀ a, a = t + 6 ∨ a = t + 9 ∨ a = t + 10 → (uI (uI (uI (uI M (t + 1) j (-1)) (t + 2) j (-1)) (t + 3) j 0) (t + 5) j (-1)).1 a = M.1 a := fun a ha => by
    rw [uI_off (by omega), uI_off (by omega), uI_off (by omega), uI_off (by omega)]
  generalize uI (uI (uI (uI M (t + 1) j (-1)) (t + 2) j (-1)) (t + 3) j 0) (t + 5) j (-1) = M4 at *
  obtain ⟨M', e', f', w1', w2', q1, q2⟩ := iter_inv (f := fun s : Int32 × Mm => fX4_begin_41b n S t (nI j) (-1) s.2 s.1) 5 (fun q s => s.1 = nI q ∧ AgI (fun a => a = t + 6) M4 s.2 ∧ (∀ q', q' < q → s.2.1 (t + 6) (5 * j + q') = 0) ∧ ∀ x, x < 5 * j ∨ 5 * j + 5 ≤ x → s.2.1 (t + 6) x = M.1 (t + 6) x) (fun M' => AgI (fun a => (t + 1 ≤ a ∧ a ≤ t + 10) ∨ (w1 ≤ a ∧ a ≤ w2 + 1)) M M' ∧ WR S M' w1 8 [] ∧ WR S M' w2 8 [] ∧ R0 M'.1 t j ∧ ∀ i, i ≠ j → R0 M.1 t i → R0 M'.1 t i) (fun q s hq hI => by
    obtain ⟨v, M5⟩ := s
    obtain ⟨rfl, hf, hz, ho⟩ := hI
    dsimp only at hf hz ho ⊢
    have f5 : AgI (fun a => t + 1 ≤ a ∧ a ≤ t + 10) M M5 := g4.tr (hf.mono (fun a z => by omega))
    have R5 : M5.2.1 = M.2.1 := by rw [f5.1]
    unfold fX4_begin_41b fX4_begin_63
    by_cases h5 : q < 5
    · rw [if_pos (lt5 h5), tF_of (show M5.2.1 t 5 = _ by rw [R5]; exact b5), mul5, sI_nI c5 (by omega) (by decide)]
      refine Or.inl ⟨h5, _, rfl, nI_add1 q, hf.tr (AgI.uI rfl), fun q' hq' => ?_, fun x hx => ?_⟩
      · by_cases e : q' = q
        · rw [e, uI_same]
        · rw [uI_row (by omega)]; exact hz q' (by omega)
      · rw [uI_row (by omega)]; exact ho x hx
    · have q5 : q = 5 := by omega
      subst q5
      have r1' : WR S M5 w1 8 l1 := r1.ag f5 (by omega) (by omega)
      have r2' : WR S M5 w2 8 l2 := r2.ag f5 (by omega) (by omega)
      rw [if_neg (by decide), tF_of (show M5.2.1 t 6 = _ by rw [R5]; exact b6), aR_nI c6 hj (by decide) (show M5.2.1 (t + 7) j = _ by rw [R5]; exact h1), chk_pos r1.1]
      obtain ⟨M6, e6, s1, f6⟩ := w_empty (n := n) r1'
      have r2'' := r2'.ag f6 (by omega) (by omega)
      have R6 : M6.2.1 = M.2.1 := by rw [f6.1, R5]
      rw [bind_of e6, tF_of (show M6.2.1 t 7 = _ by rw [R6]; exact b7), aR_nI c7 hj (by decide) (show M6.2.1 (t + 8) j = _ by rw [R6]; exact h2), chk_pos r2.1]
      obtain ⟨M7, e7, s2, f7⟩ := w_empty (n := n) r2''
      have R7 : M7.2.1 = M.2.1 := by rw [f7.1, R6]
      have s1' := s1.ag f7 (by omega) (by omega)
      rw [bind_of e7, tF_of (show M7.2.1 t 8 = _ by rw [R7]; exact b8), sI_nI c8 hj (by decide), tF_of (show (uI M7 (t + 9) j 0).2.1 t 10 = _ by rw [uI_2, R7]; exact b9), sI_nI c9 hj (by decide)]
      have g9 : AgI (fun a => t + 1 ≤ a ∧ a ≤ t + 10) M7 (uI (uI M7 (t + 9) j 0) (t + 10) j (-1)) := (agt (by omega)).tr (agt (by omega))
      have m9 : ∀ i, (uI (uI M7 (t + 9) j 0) (t + 10) j (-1)).1 (t + 9) i = if i = j then 0 else M7.1 (t + 9) i := fun i => by
        rw [uI_off (by omega)]
        by_cases e : i = j
        · rw [if_pos e, e, uI_same]
        · rw [if_neg e, uI_row e]
      have m10 : ∀ i, (uI (uI M7 (t + 9) j 0) (t + 10) j (-1)).1 (t + 10) i = if i = j then -1 else M7.1 (t + 10) i := fun i => by
        by_cases e : i = j
        · rw [if_pos e, e, uI_same]
        · rw [if_neg e, uI_row e, uI_off (by omega)]
      have m7 : ∀ a, a ≤ t + 8 → (uI (uI M7 (t + 9) j 0) (t + 10) j (-1)).1 a = M7.1 a := fun a ha => by rw [uI_off (by omega), uI_off (by omega)]
      have m5 : ∀ a, a ≤ t + 10 → M7.1 a = M5.1 a := fun a ha => by rw [f7.2 a (by omega), f6.2 a (by omega)]
      have m4 : ∀ a, a ≠ t + 6 → M5.1 a = M4.1 a := fun a ha => hf.2 a ha
      refine Or.inr ⟨_, rfl, ?_, s1'.ag g9 (by omega) (by omega), s2.ag g9 (by omega) (by omega), ?_, fun i hi hr => ?_⟩
      · exact (f5.mono (fun a z => by omega)).tr ((f6.mono (fun a z => by omega)).tr ((f7.mono (fun a z => by omega)).tr (g9.mono (fun a z => by omega))))
      · refine ⟨?_, ?_, ?_, ?_, ?_, ?_, fun s hs => ?_⟩
        · rw [m7 _ (by omega), m5 _ (by omega), m4 _ (by omega), k1, if_pos rfl]
        · rw [m7 _ (by omega), m5 _ (by omega), m4 _ (by omega), k2, if_pos rfl]
        · rw [m7 _ (by omega), m5 _ (by omega), m4 _ (by omega), k3, if_pos rfl]
        · rw [m7 _ (by omega), m5 _ (by omega), m4 _ (by omega), k5, if_pos rfl]
        · rw [m9, if_pos rfl]
        · rw [m10, if_pos rfl]
        · rw [m7 _ (by omega), m5 _ (by omega)]; exact hz s hs
      · obtain ⟨p1, p2, p3, p4, p5, p6, p7⟩ := hr
        refine ⟨?_, ?_, ?_, ?_, ?_, ?_, fun s hs => ?_⟩
        · rw [m7 _ (by omega), m5 _ (by omega), m4 _ (by omega), k1, if_neg hi]; exact p1
        · rw [m7 _ (by omega), m5 _ (by omega), m4 _ (by omega), k2, if_neg hi]; exact p2
        · rw [m7 _ (by omega), m5 _ (by omega), m4 _ (by omega), k3, if_neg hi]; exact p3
        · rw [m7 _ (by omega), m5 _ (by omega), m4 _ (by omega), k5, if_neg hi]; exact p4
        · rw [m9, if_neg hi, m5 _ (by omega), m4 _ (by omega), k9 _ (by omega)]; exact p5
        · rw [m10, if_neg hi, m5 _ (by omega), m4 _ (by omega), k9 _ (by omega)]; exact p6
        · rw [m7 _ (by omega), m5 _ (by omega), ho _ (by omega)]; exact p7 s hs) (show 5 < n by omega) (s := (0, M4)) ⟨rfl, AgI.rf, fun q' hq' => absurd hq' (by omega), fun x hx => by rw [k9 _ (by omega)]⟩
  exact ⟨M', e', f', w1', w2', q1, q2⟩
end NEW
