/-! ===== LEVEL 2: the reference's queue ===== -/
def MQu (pg : Nat → Int32) (Q : List QI) : Prop := pg 720 = nI Q.length ∧ Q.length ≤ 10 ∧ ∀ i x, Q[i]? = some x → pg (721 + 244 * i) = x.1 ∧ pg (721 + 244 * i + 1) = x.2.1 ∧ pg (721 + 244 * i + 2) = x.2.2.1 ∧ pg (721 + 244 * i + 3) = nI x.2.2.2.length ∧ x.2.2.2.length ≤ 240 ∧ ∀ j, j < x.2.2.2.length → pg (721 + 244 * i + (4 + j)) = x.2.2.2.getD j 0
/-- the page has changed within S -/
def PS (μ : Nat) (S : Nat → Prop) (M M' : Mm) : Prop := M'.2 = M.2 ∧ (∀ a, a ≠ μ + 1 → M'.1 a = M.1 a) ∧ ∀ i, ¬ S i → M'.1 (μ + 1) i = M.1 (μ + 1) i
theorem PS.rf {μ : Nat} {S : Nat → Prop} {M : Mm} : PS μ S M M := ⟨rfl, fun _ _ => rfl, fun _ _ => rfl⟩
theorem PS.tr {μ : Nat} {S : Nat → Prop} {M M1 M2 : Mm} (h : PS μ S M M1) (h' : PS μ S M1 M2) : PS μ S M M2 := ⟨h'.1.trans h.1, fun a x => (h'.2.1 a x).trans (h.2.1 a x), fun i x => (h'.2.2 i x).trans (h.2.2 i x)⟩
theorem PS.mono {μ : Nat} {S T : Nat → Prop} {M M1 : Mm} (h : PS μ S M M1) (hS : ∀ i, S i → T i) : PS μ T M M1 := ⟨h.1, h.2.1, fun i x => h.2.2 i (fun z => x (hS i z))⟩
theorem PS.u {μ : Nat} {S : Nat → Prop} {M : Mm} {k : Nat} {v : Int32} (h : S k) : PS μ S M (uI M (μ + 1) k v) := ⟨rfl, fun a ha => uI_off ha, fun i hi => uI_row (fun e => hi (by rw [e]; exact h))⟩
theorem PS.ml {Sh : Sp} {μ : Nat} {S : Nat → Prop} {M M' : Mm} (h : PS μ S M M') (hL : ML Sh M.2.1 μ) : ML Sh M'.2.1 μ := by rw [h.1]; exact hL
theorem PS.mp {μ : Nat} {S : Nat → Prop} {M M' : Mm} {A : At} {K : Kt} {W : Wt} (h : PS μ S M M') (hS : ∀ i, i < 720 → ¬ S i) (hA : WA A W) (hP : MP (M.1 (μ + 1)) A K W) : MP (M'.1 (μ + 1)) A K W := by
  intro j hj
  obtain ⟨h0, h1⟩ := hP j hj
  have e : ∀ i, i < 720 → M'.1 (μ + 1) i = M.1 (μ + 1) i := fun i hi => h.2.2 i (hS i hi)
  refine ⟨by rw [e _ (by omega)]; exact h0, fun hl => ?_⟩
  obtain ⟨a1, a2, -, -⟩ := hA j hl
  obtain ⟨g1, g2, g3, g4, g5, g6, g7, g8, g9, g10, g11⟩ := h1 hl
  exact ⟨by rw [e _ (by omega)]; exact g1, by rw [e _ (by omega)]; exact g2, by rw [e _ (by omega)]; exact g3, by rw [e _ (by omega)]; exact g4, fun s hs => by rw [e _ (by omega)]; exact g5 s hs, by rw [e _ (by omega)]; exact g6, by rw [e _ (by omega)]; exact g7, by rw [e _ (by omega)]; exact g8, by rw [e _ (by omega)]; exact g9, fun k hk => by rw [e _ (by omega)]; exact g10 k hk, fun k hk => by rw [e _ (by omega)]; exact g11 k hk⟩
/-- where the queue lies in the page -/
def QP : Nat → Prop := fun i => 720 ≤ i ∧ i < 3161
section MQUEUE
variable {Sh : Sp} {M : Mm} {μ n : Nat} {Q : List QI}
theorem m_st (k : Nat) : fX7_startOf n Sh M (nI k) = some (nI (721 + 244 * k)) := by
  unfold fX7_startOf
  rw [show (721 : Int32) = nI 721 from rfl, show (244 : Int32) = nI 244 from rfl, nI_mulm, nI_addm]
theorem m_at720 {ρ : Type} (hL : ML Sh M.2.1 μ) {X : Int32 → Option ρ} : (tF M μ 0 fun b => aI Sh M b 0 720 X) = X (M.1 (μ + 1) 720) := m_at hL (i := 720) (by decide)
theorem m_a720 {ρ : Type} (hL : ML Sh M.2.1 μ) {X : Int32 → Option ρ} : aI Sh M (μ + 1) 0 720 X = X (M.1 (μ + 1) 720) := aI_nI (j := 720) hL.2.2.1 (by decide) (by decide)
theorem m_drop (hL : ML Sh M.2.1 μ) (hQ : MQu (M.1 (μ + 1)) Q) (hn : 20000 < n) {k : Nat} (hk : k < Q.length) : ∃ M', fX7_drop n Sh M μ (nI k) = some M' ∧ MQu (M'.1 (μ + 1)) (Q.eraseIdx k) ∧ PS μ QP M M' := by
  obtain ⟨h1, h2, h3⟩ := hQ
  have hlen : (Q.eraseIdx k).length = Q.length - 1 := by rw [List.length_eraseIdx, if_pos hk]
  unfold fX7_drop fX7_drop_5
  rw [bind_of (m_st k)]
  obtain ⟨M', e, q1, q2⟩ := iter_inv (f := fun s : Int32 × Mm => fX7_drop_5b n Sh μ (nI k) s.2 s.1) (244 * (Q.length - 1 - k)) (fun j s => s.1 = nI (721 + 244 * k + j) ∧ s.2.1 (μ + 1) = (fun i => if 721 + 244 * k ≤ i ∧ i < 721 + 244 * k + j then M.1 (μ + 1) (i + 244) else M.1 (μ + 1) i) ∧ PS μ QP M s.2) (fun M' => M'.1 (μ + 1) = (fun i => if i = 720 then nI (Q.length - 1) else if 721 + 244 * k ≤ i ∧ i < 721 + 244 * (Q.length - 1) then M.1 (μ + 1) (i + 244) else M.1 (μ + 1) i) ∧ PS μ QP M M') (fun j s hj hI => by
    obtain ⟨v, M1⟩ := s
    obtain ⟨e1, g1, g2⟩ := hI
    dsimp only at e1 g1 g2
    subst e1
    have hL1 := g2.ml hL
    have h720 : M1.1 (μ + 1) 720 = nI Q.length := by rw [g1]; dsimp only; rw [if_neg (by omega)]; exact h1
    unfold fX7_drop_5b fX7_drop_44
    dsimp only
    rw [m_at720 hL1, h720, nI_sub1 (by omega), bind_of (m_st _)]
    by_cases hj2 : j < 244 * (Q.length - 1 - k)
    · rw [if_pos ((nI_ltI (by omega) (by omega)).mpr (by omega)), tF_of hL1.2.1.1, show nI (721 + 244 * k + j) + 244 = nI (721 + 244 * k + j + 244) from nI_addm _ 244, m_at hL1 (by omega), sI_nI hL1.2.2.1 (by omega) (by decide)]
      refine Or.inl ⟨hj2, _, rfl, nI_add1 _, ?_, g2.tr (PS.u (by unfold QP; omega))⟩
      show (uI M1 (μ + 1) _ _).1 (μ + 1) = _
      rw [uI_upd]
      funext i
      unfold upd
      rw [g1]
      dsimp only
      by_cases hi : i = 721 + 244 * k + j
      · subst hi
        rw [if_pos rfl, if_neg (by omega), if_pos (by omega)]
      · rw [if_neg hi]
        by_cases hi2 : 721 + 244 * k ≤ i ∧ i < 721 + 244 * k + j
        · rw [if_pos hi2, if_pos (by omega)]
        · rw [if_neg hi2, if_neg (by omega)]
    · rw [if_neg (fun z => by have := (nI_ltI (by omega) (by omega)).mp z; omega), tF_of hL1.2.1.1, m_a720 hL1, h720, nI_sub1 (by omega), show sI Sh M1 (μ + 1) 720 (nI (Q.length - 1)) (fun M3 => some M3) = some (uI M1 (μ + 1) 720 (nI (Q.length - 1))) from sI_nI (j := 720) hL1.2.2.1 (by decide) (by decide)]
      refine Or.inr ⟨_, rfl, ?_, g2.tr (PS.u (by unfold QP; omega))⟩
      rw [uI_upd]
      funext i
      unfold upd
      rw [g1]
      dsimp only
      by_cases hi : i = 720
      · rw [if_pos hi, if_pos hi]
      · rw [if_neg hi, if_neg hi]
        by_cases hi2 : 721 + 244 * k ≤ i ∧ i < 721 + 244 * k + j
        · rw [if_pos hi2, if_pos (by omega)]
        · rw [if_neg hi2, if_neg (by omega)]) (show 244 * (Q.length - 1 - k) < n by omega) (s := (nI (721 + 244 * k), M)) ⟨rfl, by
            funext i
            rw [if_neg (by omega)], PS.rf⟩
  refine ⟨M', e, ⟨by rw [q1, hlen]; rfl, by omega, fun i x hx => ?_⟩, q2⟩
  have hi : i < Q.length - 1 := by
    have := (List.getElem?_eq_some_iff.mp hx).1
    omega
  rw [List.getElem?_eraseIdx] at hx
  rw [q1]
  dsimp only
  by_cases c : i < k
  · rw [if_pos c] at hx
    obtain ⟨r1, r2, r3, r4, r5, r6⟩ := h3 i x hx
    refine ⟨?_, ?_, ?_, ?_, r5, fun j hj => ?_⟩
    · rw [if_neg (by omega), if_neg (by omega)]; exact r1
    · rw [if_neg (by omega), if_neg (by omega)]; exact r2
    · rw [if_neg (by omega), if_neg (by omega)]; exact r3
    · rw [if_neg (by omega), if_neg (by omega)]; exact r4
    · rw [if_neg (by omega), if_neg (by omega)]; exact r6 j hj
  · rw [if_neg c] at hx
    obtain ⟨r1, r2, r3, r4, r5, r6⟩ := h3 (i + 1) x hx
    refine ⟨?_, ?_, ?_, ?_, r5, fun j hj => ?_⟩
    · rw [if_neg (by omega), if_pos (by omega), show 721 + 244 * i + 244 = 721 + 244 * (i + 1) by omega]; exact r1
    · rw [if_neg (by omega), if_pos (by omega), show 721 + 244 * i + 1 + 244 = 721 + 244 * (i + 1) + 1 by omega]; exact r2
    · rw [if_neg (by omega), if_pos (by omega), show 721 + 244 * i + 2 + 244 = 721 + 244 * (i + 1) + 2 by omega]; exact r3
    · rw [if_neg (by omega), if_pos (by omega), show 721 + 244 * i + 3 + 244 = 721 + 244 * (i + 1) + 3 by omega]; exact r4
    · rw [if_neg (by omega), if_pos (by omega), show 721 + 244 * i + (4 + j) + 244 = 721 + 244 * (i + 1) + (4 + j) by omega]; exact r6 j hj
theorem m_rank {ρ : Type} (hL : ML Sh M.2.1 μ) (hQ : MQu (M.1 (μ + 1)) Q) {k : Nat} {x : QI} (hx : Q[k]? = some x) {X : Int32 → Option ρ} : (tF M μ 0 fun b => aI Sh M b 0 (nI (721 + 244 * k)) X) = X x.1 := by
  have := (List.getElem?_eq_some_iff.mp hx).1
  have := hQ.2.1
  rw [m_at hL (by omega), (hQ.2.2 k x hx).1]
theorem m_extreme (hL : ML Sh M.2.1 μ) (hQ : MQu (M.1 (μ + 1)) Q) (hn : 24 < n) (g : Bool) (hl : 0 < Q.length) : fX7_extreme n Sh M μ (if g then 1 else 0) = some (nI (exF g Q)) := by
  have h3 := hQ.2.1
  unfold fX7_extreme fX7_extreme_4
  refine iter_seq (N := Q.length - 1) (fun j => (nI (exG g Q j), nI (j + 1))) (fun j hj => ?_) ?_ (by omega) rfl
  · have hb := exG_le g Q j
    have g1 : Q[j + 1]? = some Q[j + 1] := List.getElem?_eq_getElem (by omega)
    have g2 : Q[exG g Q j]? = some Q[exG g Q j] := List.getElem?_eq_getElem (by omega)
    unfold fX7_extreme_4b fX7_extreme_66 fX7_extreme_62 fX7_extreme_67
    dsimp only
    rw [m_at720 hL, hQ.1, if_pos ((nI_ltI (by omega) (by omega)).mpr (show j + 1 < Q.length by omega))]
    simp only [m_st, bindS]
    rw [m_rank hL hQ g1, m_rank hL hQ g2, m_rank hL hQ g2]
    cases g with
    | true =>
      have e : exG true Q (j + 1) = if rk Q (exG true Q j) < rk Q (j + 1) then j + 1 else exG true Q j := rfl
      rw [e, rk_some g1, rk_some g2, nI_add1, if_neg (by decide)]
      by_cases hlt : Q[exG true Q j].1 < Q[j + 1].1
      · rw [if_pos hlt, if_neg (Int32.not_le.mpr hlt)]
      · rw [if_neg hlt, if_pos (Int32.not_lt.mp hlt)]
    | false =>
      have e : exG false Q (j + 1) = if rk Q (j + 1) < rk Q (exG false Q j) then j + 1 else exG false Q j := rfl
      rw [e, rk_some g1, rk_some g2, nI_add1, if_pos (by decide)]
      by_cases hlt : Q[j + 1].1 < Q[exG false Q j].1
      · rw [if_pos hlt, if_pos hlt]
      · rw [if_neg hlt, if_neg hlt]
  · unfold fX7_extreme_4b
    dsimp only
    rw [m_at720 hL, hQ.1, if_neg (fun z => by have := (nI_ltI (by omega) (by omega)).mp z; omega)]
    rfl
/-- the words that were laid are queued -/
theorem m_q22 (hL : ML Sh M.2.1 μ) (hQ : MQu (M.1 (μ + 1)) Q) (hl : Q.length < 10) (hn : 20000 < n) {l : List Int32} (hM : MW M μ l) (hl240 : l.length ≤ 240) (r tg rg : Int32) : ∃ M', fX7_queues_22 n Sh μ r tg rg M = some M' ∧ MQu (M'.1 (μ + 1)) (Q ++ [(r, tg, rg, l)]) ∧ PS μ QP M M' := by
  obtain ⟨h1, h2, h3⟩ := hQ
  unfold fX7_queues_22 fX7_queues_79
  rw [m_at720 hL, h1, bind_of (m_st _), tF_of hL.2.1.1, sI_nI hL.2.2.1 (by omega) (by decide), nI_add1, tF_uI, tF_of hL.2.1.1, sI_nI hL.2.2.1 (by omega) (by decide)]
  rw [show nI (721 + 244 * Q.length) + 2 = nI (721 + 244 * Q.length + 2) from nI_addm _ 2, show nI (721 + 244 * Q.length) + 3 = nI (721 + 244 * Q.length + 3) from nI_addm _ 3]
  rw [tF_uI, tF_uI, tF_of hL.2.1.1, sI_nI hL.2.2.1 (by omega) (by decide), tF_uI, tF_uI, tF_uI, tF_of hL.2.1.1]
  simp only [tI_of]
  rw [uI_off (show μ ≠ μ + 1 by omega), uI_off (show μ ≠ μ + 1 by omega), uI_off (show μ ≠ μ + 1 by omega), hM.1, sI_nI hL.2.2.1 (by omega) (by decide)]
  have p1 : PS μ QP M (uI (uI (uI (uI M (μ + 1) (721 + 244 * Q.length) r) (μ + 1) (721 + 244 * Q.length + 1) tg) (μ + 1) (721 + 244 * Q.length + 2) rg) (μ + 1) (721 + 244 * Q.length + 3) (nI l.length)) := (PS.u (by unfold QP; omega)).tr ((PS.u (by unfold QP; omega)).tr ((PS.u (by unfold QP; omega)).tr (PS.u (by unfold QP; omega))))
  generalize hM4 : uI (uI (uI (uI M (μ + 1) (721 + 244 * Q.length) r) (μ + 1) (721 + 244 * Q.length + 1) tg) (μ + 1) (721 + 244 * Q.length + 2) rg) (μ + 1) (721 + 244 * Q.length + 3) (nI l.length) = M4 at *
  have w0 : M4.1 (μ + 1) (721 + 244 * Q.length) = r ∧ M4.1 (μ + 1) (721 + 244 * Q.length + 1) = tg ∧ M4.1 (μ + 1) (721 + 244 * Q.length + 2) = rg ∧ M4.1 (μ + 1) (721 + 244 * Q.length + 3) = nI l.length ∧ ∀ i, i < 721 + 244 * Q.length → M4.1 (μ + 1) i = M.1 (μ + 1) i := by
    subst hM4
    refine ⟨?_, ?_, ?_, ?_, fun i hi => ?_⟩
    · rw [uI_row (by omega), uI_row (by omega), uI_row (by omega), uI_same]
    · rw [uI_row (by omega), uI_row (by omega), uI_same]
    · rw [uI_row (by omega), uI_same]
    · rw [uI_same]
    · rw [uI_row (by omega), uI_row (by omega), uI_row (by omega), uI_row (by omega)]
  clear hM4
  obtain ⟨M', e, q1, q2, q3⟩ := iter_inv (f := fun s : Int32 × Mm => fX7_queues_79b n Sh μ r tg rg s.2 (nI (721 + 244 * Q.length)) s.1) l.length (fun j s => s.1 = nI j ∧ (∀ i, i < 721 + 244 * Q.length + 4 → s.2.1 (μ + 1) i = M4.1 (μ + 1) i) ∧ (∀ i, i < j → s.2.1 (μ + 1) (721 + 244 * Q.length + (4 + i)) = l.getD i 0) ∧ PS μ QP M s.2) (fun M' => (∀ i, i ≠ 720 → i < 721 + 244 * Q.length + 4 → M'.1 (μ + 1) i = M4.1 (μ + 1) i) ∧ (M'.1 (μ + 1) 720 = nI (Q.length + 1) ∧ ∀ i, i < l.length → M'.1 (μ + 1) (721 + 244 * Q.length + (4 + i)) = l.getD i 0) ∧ PS μ QP M M') (fun j s hj hI => by
    obtain ⟨v, M1⟩ := s
    obtain ⟨e1, g1, g2, g3⟩ := hI
    dsimp only at e1 g1 g2 g3
    subst e1
    have hL1 := g3.ml hL
    unfold fX7_queues_79b fX7_queues_113
    dsimp only
    simp only [tI_of]
    rw [g3.2.1 μ (by omega), hM.1]
    by_cases hjl : j < l.length
    · rw [if_pos ((nI_ltI (by omega) (by omega)).mpr hjl), tF_of hL1.2.1.1, tF_of hL1.2.1.2.2.2.1, aI_nI hL1.2.2.2.2.2.1 (by omega) (by decide), g3.2.1 (μ + 4) (by omega), hM.2.2 j hjl, show nI (721 + 244 * Q.length) + 4 + nI j = nI (721 + 244 * Q.length + (4 + j)) from by rw [show nI (721 + 244 * Q.length) + 4 = nI (721 + 244 * Q.length + 4) from nI_addm _ 4, nI_addm, Nat.add_assoc], sI_nI hL1.2.2.1 (by omega) (by decide)]
      refine Or.inl ⟨hjl, _, rfl, nI_add1 j, fun i hi => ?_, fun i hi => ?_, g3.tr (PS.u (by unfold QP; omega))⟩
      · rw [uI_row (by omega)]; exact g1 i hi
      · by_cases e : i = j
        · subst e; exact uI_same
        · rw [uI_row (by omega)]; exact g2 i (by omega)
    · rw [if_neg (fun z => hjl ((nI_ltI (by omega) (by omega)).mp z)), tF_of hL1.2.1.1, m_a720 hL1, g1 720 (by omega), w0.2.2.2.2 720 (by omega), h1, nI_add1, show sI Sh M1 (μ + 1) 720 (nI (Q.length + 1)) (fun M3 => some M3) = some (uI M1 (μ + 1) 720 (nI (Q.length + 1))) from sI_nI (j := 720) hL1.2.2.1 (by decide) (by decide)]
      exact Or.inr ⟨_, rfl, fun i h0 hi => by rw [uI_row h0]; exact g1 i hi, ⟨uI_same, fun i hi => by rw [uI_row (by omega)]; exact g2 i (by omega)⟩, g3.tr (PS.u (by unfold QP; omega))⟩) (show l.length < n by omega) (s := (0, M4)) ⟨rfl, fun i _ => rfl, fun i hi => absurd hi (Nat.not_lt_zero i), p1⟩
  refine ⟨M', e, ⟨by rw [q2.1, List.length_append]; rfl, by rw [List.length_append]; exact hl, fun i x hx => ?_⟩, q3⟩
  by_cases hi : i < Q.length
  · rw [List.getElem?_append_left hi] at hx
    obtain ⟨r1, r2, r3, r4, r5, r6⟩ := h3 i x hx
    refine ⟨?_, ?_, ?_, ?_, r5, fun j hj => ?_⟩
    · rw [q1 _ (by omega) (by omega), w0.2.2.2.2 _ (by omega)]; exact r1
    · rw [q1 _ (by omega) (by omega), w0.2.2.2.2 _ (by omega)]; exact r2
    · rw [q1 _ (by omega) (by omega), w0.2.2.2.2 _ (by omega)]; exact r3
    · rw [q1 _ (by omega) (by omega), w0.2.2.2.2 _ (by omega)]; exact r4
    · rw [q1 _ (by omega) (by omega), w0.2.2.2.2 _ (by omega)]; exact r6 j hj
  · have hil := (List.getElem?_eq_some_iff.mp hx).1
    rw [List.length_append, List.length_singleton] at hil
    have hi2 : i = Q.length := by omega
    subst hi2
    rw [List.getElem?_append_right (Nat.le_refl _), Nat.sub_self] at hx
    have hx2 : (r, tg, rg, l) = x := Option.some.inj hx
    subst hx2
    refine ⟨?_, ?_, ?_, ?_, hl240, fun j hj => q2.2 j hj⟩
    · rw [q1 _ (by omega) (by omega)]; exact w0.1
    · rw [q1 _ (by omega) (by omega)]; exact w0.2.1
    · rw [q1 _ (by omega) (by omega)]; exact w0.2.2.1
    · rw [q1 _ (by omega) (by omega)]; exact w0.2.2.2.1
theorem MW.ps {M' : Mm} {S : Nat → Prop} {l : List Int32} (h : MW M μ l) (p : PS μ S M M') : MW M' μ l := ⟨by rw [p.2.1 μ (by omega)]; exact h.1, h.2.1, fun k hk => by rw [p.2.1 (μ + 4) (by omega)]; exact h.2.2 k hk⟩
theorem m_queues (hL : ML Sh M.2.1 μ) (hQ : MQu (M.1 (μ + 1)) Q) (hn : 20000 < n) {l : List Int32} (hM : MW M μ l) (hl240 : l.length ≤ 240) (r tg rg : Int32) : ∃ M', fX7_queues n Sh M μ r tg rg = some M' ∧ MQu (M'.1 (μ + 1)) (apQ Q (r, tg, rg, l)) ∧ PS μ QP M M' := by
  have h3 := hQ.2.1
  unfold fX7_queues apQ
  rw [m_at720 hL, hQ.1]
  by_cases hl : Q.length < 10
  · rw [if_neg (show ¬ nI Q.length = 10 from fun z => by have := nI_inj (b := 10) (by omega) (by decide) z; omega), if_pos hl]
    exact m_q22 hL hQ hl hn hM hl240 r tg rg
  · have he : Q.length = 10 := by omega
    rw [he, if_pos (show nI 10 = 10 from rfl), if_neg (by decide), bind_of (show fX7_extreme n Sh M μ 1 = some (nI (exF true Q)) from m_extreme hL hQ (by omega) true (by omega))]
    have hx := exF_lt true (Q := Q) (by omega)
    obtain ⟨M1, e1, r1, p1⟩ := m_drop hL hQ hn hx
    rw [bind_of e1]
    obtain ⟨M2, e2, r2, p2⟩ := m_q22 (p1.ml hL) r1 (by rw [List.length_eraseIdx, if_pos hx]; omega) hn (hM.ps p1) hl240 r tg rg
    exact ⟨M2, e2, r2, p1.tr p2⟩
end MQUEUE
