/-! ===== LEVEL 2: the class's queue ===== -/
/-- memory changed within S alone, and no longs -/
def Ag (S : Nat → Prop) (M M' : Mm) : Prop := M'.2.2 = M.2.2 ∧ ∀ a, ¬ S a → M'.1 a = M.1 a ∧ M'.2.1 a = M.2.1 a
theorem Ag.rf {S : Nat → Prop} {M : Mm} : Ag S M M := ⟨rfl, fun _ _ => ⟨rfl, rfl⟩⟩
theorem Ag.tr {S : Nat → Prop} {M M1 M2 : Mm} (h1 : Ag S M M1) (h2 : Ag S M1 M2) : Ag S M M2 := ⟨h2.1.trans h1.1, fun a h => ⟨(h2.2 a h).1.trans (h1.2 a h).1, (h2.2 a h).2.trans (h1.2 a h).2⟩⟩
theorem Ag.mono {S T : Nat → Prop} {M M1 : Mm} (h1 : Ag S M M1) (h : ∀ a, S a → T a) : Ag T M M1 := ⟨h1.1, fun a ha => h1.2 a (fun z => ha (h a z))⟩
theorem AgI.toAg {S : Nat → Prop} {M M1 : Mm} (h : AgI S M M1) : Ag S M M1 := ⟨by rw [h.1], fun a ha => ⟨h.2 a ha, by rw [h.1]⟩⟩
theorem Ag.uI {S : Nat → Prop} {M : Mm} {a k : Nat} {v : Int32} (h : S a) : Ag S M (uI M a k v) := (AgI.uI h).toAg
theorem uR_same {M : Mm} {a k : Nat} {v : Option Nat} : (uR M a k v).2.1 a k = v := by simp [uR, va_up]
theorem uR_row {M : Mm} {a j k : Nat} {v : Option Nat} (h : j ≠ k) : (uR M a k v).2.1 a j = M.2.1 a j := by simp [uR, va_up, h]
theorem uR_off {M : Mm} {a b k : Nat} {v : Option Nat} (h : b ≠ a) : (uR M a k v).2.1 b = M.2.1 b := by simp [uR, h]
theorem uR_1 {M : Mm} {a k : Nat} {v : Option Nat} : (uR M a k v).1 = M.1 := rfl
theorem Ag.uR {S : Nat → Prop} {M : Mm} {a k : Nat} {v : Option Nat} (h : S a) : Ag S M (uR M a k v) := ⟨rfl, fun b hb => ⟨rfl, uR_off (fun e => hb (by rw [e]; exact h))⟩⟩
theorem WR.Ag {Sh : Sp} {M M' : Mm} {w cap : Nat} {l : List Int32} {S : Nat → Prop} (h : WR Sh M w cap l) (ha : Ag S M M') (h1 : ¬ S w) (h2 : ¬ S (w + 1)) : WR Sh M' w cap l := by
  obtain ⟨q1, q2, q3, q4, q5, q6, q7⟩ := h
  exact ⟨q1, by rw [(ha.2 _ h1).2]; exact q2, q3, by rw [(ha.2 _ h1).1]; exact q4, q5, fun k hk => by rw [(ha.2 _ h2).1]; exact q6 k hk, q7⟩
theorem LT.Ag {Sh : Sp} {M M' : Mm} {t : Nat} {S : Nat → Prop} (h : LT Sh M.2.1 t) (ha : Ag S M M') (hS : ∀ a, t ≤ a → a < t + 109 → ¬ S a) : LT Sh M'.2.1 t := by
  have e : ∀ a, t ≤ a → a < t + 109 → M'.2.1 a = M.2.1 a := fun a x y => (ha.2 a (hS a x y)).2
  unfold LT at h ⊢
  rw [e t (by omega) (by omega), e (t + 7) (by omega) (by omega), e (t + 8) (by omega) (by omega)]
  exact h
theorem CT.Ag {Sh : Sp} {M M' : Mm} {t : Nat} {A : At} {K : Kt} {W : Wt} {S : Nat → Prop} (h : CT Sh M t A K W) (ha : Ag S M M') (hS : ∀ a, t ≤ a → a < t + 109 → ¬ S a) : CT Sh M' t A K W := by
  obtain ⟨h1, h2, h3, h4⟩ := h
  have e : ∀ a, t ≤ a → a < t + 109 → M'.1 a = M.1 a := fun a x y => (ha.2 a (hS a x y)).1
  refine ⟨h1.Ag ha hS, fun i hi => ?_, fun i hi => ⟨((h3 i hi).1).Ag ha (hS _ (by omega) (by omega)) (hS _ (by omega) (by omega)), ((h3 i hi).2).Ag ha (hS _ (by omega) (by omega)) (hS _ (by omega) (by omega))⟩, h4.Ag ha (hS _ (by omega) (by omega)) (hS _ (by omega) (by omega))⟩
  rw [e (t + 1) (by omega) (by omega), e (t + 2) (by omega) (by omega), e (t + 3) (by omega) (by omega), e (t + 5) (by omega) (by omega), e (t + 9) (by omega) (by omega), e (t + 10) (by omega) (by omega), e (t + 6) (by omega) (by omega), e (t + 4) (by omega) (by omega)]
  exact h2 i hi
/-- an announcement: its rank, its target, its region, its words -/
abbrev QI : Type := Int32 × Int32 × Int32 × List Int32
def QL (Sh : Sp) (R : Nat → Nat → Option Nat) (q : Nat) : Prop := Sh q = some (.inl 1) ∧ (R q 1 = some (q + 1) ∧ R q 2 = some (q + 2) ∧ R q 3 = some (q + 3) ∧ R q 4 = some (q + 4)) ∧ Sh (q + 1) = some (.inr (0, 10)) ∧ Sh (q + 2) = some (.inr (0, 10)) ∧ Sh (q + 3) = some (.inr (0, 10)) ∧ Sh (q + 4) = some (.inr (4, 10))
def QR (Sh : Sp) (M : Mm) (q : Nat) (Q : List QI) : Prop := QL Sh M.2.1 q ∧ M.1 q 0 = nI Q.length ∧ Q.length ≤ 10 ∧ (∀ k, k < 10 → ∃ l, WR Sh M (q + 5 + 2 * k) 256 l) ∧ ∃ p : Nat → Nat, (∀ i, i < 10 → p i < 10) ∧ (∀ i j, i < 10 → j < 10 → p i = p j → i = j) ∧ (∀ i, i < 10 → M.2.1 (q + 4) i = some (q + 5 + 2 * p i)) ∧ ∀ i x, Q[i]? = some x → M.1 (q + 1) i = x.1 ∧ M.1 (q + 2) i = x.2.1 ∧ M.1 (q + 3) i = x.2.2.1 ∧ WR Sh M (q + 5 + 2 * p i) 256 x.2.2.2
theorem QR.Ag {Sh : Sp} {M M' : Mm} {q : Nat} {Q : List QI} {S : Nat → Prop} (h : QR Sh M q Q) (ha : Ag S M M') (hS : ∀ a, q ≤ a → a < q + 25 → ¬ S a) : QR Sh M' q Q := by
  obtain ⟨h1, h2, h3, h4, p, h5, h6, h7, h8⟩ := h
  have e : ∀ a, q ≤ a → a < q + 25 → M'.1 a = M.1 a := fun a x y => (ha.2 a (hS a x y)).1
  have e' : ∀ a, q ≤ a → a < q + 25 → M'.2.1 a = M.2.1 a := fun a x y => (ha.2 a (hS a x y)).2
  refine ⟨?_, by rw [e q (by omega) (by omega)]; exact h2, h3, fun k hk => ?_, p, h5, h6, fun i hi => by rw [e' _ (by omega) (by omega)]; exact h7 i hi, fun i x hx => ?_⟩
  · unfold QL at h1 ⊢
    rw [e' q (by omega) (by omega)]
    exact h1
  · obtain ⟨l, hl⟩ := h4 k hk
    exact ⟨l, hl.Ag ha (hS _ (by omega) (by omega)) (hS _ (by omega) (by omega))⟩
  · have hi : i < 10 := by have := (List.getElem?_eq_some_iff.mp hx).1; omega
    have := h5 i hi
    obtain ⟨g1, g2, g3, g4⟩ := h8 i x hx
    exact ⟨by rw [e _ (by omega) (by omega)]; exact g1, by rw [e _ (by omega) (by omega)]; exact g2, by rw [e _ (by omega) (by omega)]; exact g3, g4.Ag ha (hS _ (by omega) (by omega)) (hS _ (by omega) (by omega))⟩
theorem tF_uI {ρ : Type} {M : Mm} {a k b j : Nat} {v : Int32} {X : Nat → Option ρ} : tF (uI M a k v) b j X = tF M b j X := rfl
def shl {α : Type} (f : Nat → α) (k j i : Nat) : α := if k ≤ i ∧ i + 1 < j then f (i + 1) else f i
theorem shl_start {α : Type} (f : Nat → α) (k : Nat) : shl f k (k + 1) = f := by
  funext i
  unfold shl
  exact if_neg (by omega)
theorem shl_ge {α : Type} (f : Nat → α) (k j : Nat) : shl f k j j = f j := if_neg (by omega)
theorem shl_step (f : Nat → Int32) (k j : Nat) (h : k < j) : upd (shl f k j) (j - 1) (f j) = shl f k (j + 1) := by
  funext i
  unfold upd shl
  by_cases e : i = j - 1
  · subst e
    rw [if_pos rfl, if_pos ⟨by omega, by omega⟩, show j - 1 + 1 = j by omega]
  · rw [if_neg e]
    by_cases h2 : k ≤ i ∧ i + 1 < j
    · rw [if_pos h2, if_pos ⟨h2.1, by omega⟩]
    · rw [if_neg h2, if_neg (by omega)]
theorem shl_stepR (f : Nat → Option Nat) (k j : Nat) (h : k < j) : va_up (shl f k j) (j - 1) (f j) = shl f k (j + 1) := by
  funext i
  unfold va_up shl
  by_cases e : i = j - 1
  · subst e
    rw [if_pos rfl, if_pos ⟨by omega, by omega⟩, show j - 1 + 1 = j by omega]
  · rw [if_neg e]
    by_cases h2 : k ≤ i ∧ i + 1 < j
    · rw [if_pos h2, if_pos ⟨h2.1, by omega⟩]
    · rw [if_neg h2, if_neg (by omega)]
theorem uI_upd {M : Mm} {a k : Nat} {v : Int32} : (uI M a k v).1 a = upd (M.1 a) k v := by simp [uI, wI]
theorem uR_upd {M : Mm} {a k : Nat} {v : Option Nat} : (uR M a k v).2.1 a = va_up (M.2.1 a) k v := by simp [uR]
theorem nI_sub1 {k : Nat} (h : 0 < k) : nI k - 1 = nI (k - 1) := by
  obtain ⟨m, rfl⟩ : ∃ m, k = m + 1 := ⟨k - 1, by omega⟩
  rw [← nI_add1]
  show nI m + 1 - 1 = nI m
  exact Int32.add_sub_cancel _ _
theorem nI_dec {k : Nat} (h : 0 < k) : nI k + (-1) = nI (k - 1) := by
  rw [← nI_sub1 h, Int32.sub_eq_add_neg]
section QUEUE
variable {Sh : Sp} {M : Mm} {q n : Nat} {Q : List QI}
theorem q_has (h : QR Sh M q Q) {k : Nat} (hk : k < 2 ^ 31) : fX1_has n Sh M q (nI k) = some (bI (k < Q.length)) := by
  obtain ⟨-, h2, h3, -⟩ := h
  unfold fX1_has
  rw [if_neg (nI_pos hk)]
  simp only [tI_of, h2, lt_nI hk (show Q.length < 2 ^ 31 by omega)]
  by_cases hl : k < Q.length
  · rw [if_pos hl, if_pos (show nI k < 10 from (nI_ltI (b := 10) hk (by decide)).mpr (by omega)), bI_pos hl]
  · rw [if_neg hl, bI_neg hl]
theorem q_has_neg {v : Int32} (hv : v < 0) : fX1_has n Sh M q v = some 0 := if_pos hv
theorem q_rankOf (h : QR Sh M q Q) {k : Nat} {x : QI} (hx : Q[k]? = some x) : fX1_rankOf n Sh M q (nI k) = some x.1 := by
  have hk := (List.getElem?_eq_some_iff.mp hx).1
  have h3 := h.2.2.1
  unfold fX1_rankOf
  rw [bind_of (q_has h (show k < 2 ^ 31 by omega)), i0 hk, tF_of h.1.2.1.1, aI_nI h.1.2.2.1 (by omega) (by decide)]
  obtain ⟨-, -, -, -, p, -, -, -, h8⟩ := h
  rw [(h8 k x hx).1]
theorem q_targetOf (h : QR Sh M q Q) {k : Nat} {x : QI} (hx : Q[k]? = some x) : fX1_targetOf n Sh M q (nI k) = some x.2.1 := by
  have hk := (List.getElem?_eq_some_iff.mp hx).1
  have h3 := h.2.2.1
  unfold fX1_targetOf
  rw [bind_of (q_has h (show k < 2 ^ 31 by omega)), i0 hk, tF_of h.1.2.1.2.1, aI_nI h.1.2.2.2.1 (by omega) (by decide)]
  obtain ⟨-, -, -, -, p, -, -, -, h8⟩ := h
  rw [(h8 k x hx).2.1]
theorem q_regionOf (h : QR Sh M q Q) {k : Nat} {x : QI} (hx : Q[k]? = some x) : fX1_regionOf n Sh M q (nI k) = some x.2.2.1 := by
  have hk := (List.getElem?_eq_some_iff.mp hx).1
  have h3 := h.2.2.1
  unfold fX1_regionOf
  rw [bind_of (q_has h (show k < 2 ^ 31 by omega)), i0 hk, tF_of h.1.2.1.2.2.1, aI_nI h.1.2.2.2.2.1 (by omega) (by decide)]
  obtain ⟨-, -, -, -, p, -, -, -, h8⟩ := h
  rw [(h8 k x hx).2.2.1]
def QS (q : Nat) : Nat → Prop := fun a => q ≤ a ∧ a < q + 25
theorem q_drop (h : QR Sh M q Q) (hn : 24 < n) {k : Nat} (hk : k < Q.length) : ∃ M', fX1_drop n Sh M q (nI k) = some M' ∧ QR Sh M' q (Q.eraseIdx k) ∧ Ag (fun a => q ≤ a ∧ a < q + 5) M M' := by
  have hQ := h
  obtain ⟨hL, h2, h3, h4, p, h5, h6, h7, h8⟩ := h
  unfold fX1_drop fX1_drop_20
  rw [bind_of (q_has hQ (show k < 2 ^ 31 by omega)), i0 hk, tF_of hL.2.1.2.2.2, aR_nI hL.2.2.2.2.2 (by omega) (by decide) (h7 k (by omega)), nI_add1]
  have hex : ∀ j, j < 10 → ∃ b, M.2.1 (q + 4) j = some b ∧ Sh b = some (.inl 5) := fun j hj => by
    obtain ⟨l, hl⟩ := h4 (p j) (h5 j hj)
    exact ⟨_, h7 j hj, hl.1⟩
  obtain ⟨l0, hl0⟩ := h4 (p k) (h5 k (by omega))
  obtain ⟨M', e, q1, q2, q3, q4, q5, q6, q7⟩ := iter_inv (f := fun s : Int32 × Mm => fX1_drop_20b n Sh q (nI k) s.2 (q + 5 + 2 * p k) s.1) (Q.length - (k + 1)) (fun j s => s.1 = nI (k + 1 + j) ∧ s.2.1 (q + 1) = shl (M.1 (q + 1)) k (k + 1 + j) ∧ s.2.1 (q + 2) = shl (M.1 (q + 2)) k (k + 1 + j) ∧ s.2.1 (q + 3) = shl (M.1 (q + 3)) k (k + 1 + j) ∧ s.2.2.1 (q + 4) = shl (M.2.1 (q + 4)) k (k + 1 + j) ∧ s.2.1 q = M.1 q ∧ s.2.2.1 q = M.2.1 q ∧ Ag (fun a => q ≤ a ∧ a < q + 5) M s.2) (fun M' => M'.1 (q + 1) = shl (M.1 (q + 1)) k Q.length ∧ M'.1 (q + 2) = shl (M.1 (q + 2)) k Q.length ∧ M'.1 (q + 3) = shl (M.1 (q + 3)) k Q.length ∧ M'.2.1 (q + 4) = va_up (shl (M.2.1 (q + 4)) k Q.length) (Q.length - 1) (some (q + 5 + 2 * p k)) ∧ M'.1 q = upd (M.1 q) 0 (nI (Q.length - 1)) ∧ M'.2.1 q = M.2.1 q ∧ Ag (fun a => q ≤ a ∧ a < q + 5) M M') (fun j s hj hI => by
    obtain ⟨v, M1⟩ := s
    obtain ⟨e1, g1, g2, g3, g4, g0, g0', hag⟩ := hI
    dsimp only at e1 g1 g2 g3 g4 g0 g0' hag
    subst e1
    have hL1 : QL Sh M1.2.1 q := by unfold QL at hL ⊢; rw [g0']; exact hL
    unfold fX1_drop_20b fX1_drop_90
    dsimp only
    simp only [tI_of, g0, h2]
    by_cases hj2 : j < Q.length - (k + 1)
    · rw [if_pos ((nI_ltI (by omega) (by omega)).mpr (show k + 1 + j < Q.length by omega)), tF_of hL1.2.1.1, tF_of hL1.2.1.1, aI_nI hL1.2.2.1 (by omega) (by decide), nI_sub1 (by omega), sI_nI hL1.2.2.1 (by omega) (by decide)]
      rw [tF_uI, tF_of hL1.2.1.2.1, tF_uI, tF_of hL1.2.1.2.1, aI_nI hL1.2.2.2.1 (by omega) (by decide), sI_nI hL1.2.2.2.1 (by omega) (by decide)]
      rw [tF_uI, tF_uI, tF_of hL1.2.1.2.2.1, tF_uI, tF_uI, tF_of hL1.2.1.2.2.1, aI_nI hL1.2.2.2.2.1 (by omega) (by decide), sI_nI hL1.2.2.2.2.1 (by omega) (by decide)]
      obtain ⟨b, hb1, hb2⟩ := hex (k + 1 + j) (by omega)
      have hb3 : M1.2.1 (q + 4) (k + 1 + j) = some b := by rw [g4, shl_ge]; exact hb1
      rw [tF_uI, tF_uI, tF_uI, tF_of hL1.2.1.2.2.2, tF_uI, tF_uI, tF_uI, tF_of hL1.2.1.2.2.2, aR_nI (M := uI (uI (uI M1 _ _ _) _ _ _) _ _ _) hL1.2.2.2.2.2 (by omega) (by decide) hb3, sR_nI hL1.2.2.2.2.2 (by omega) (by decide) hb2]
      refine Or.inl ⟨hj2, _, rfl, nI_add1 _, ?_, ?_, ?_, ?_, ?_, ?_, ?_⟩
      · show (uI (uI (uI M1 (q + 1) _ _) (q + 2) _ _) (q + 3) _ _).1 (q + 1) = _
        rw [uI_off (by omega), uI_off (by omega), uI_upd, g1, shl_ge, shl_step _ _ _ (by omega)]
        rfl
      · show (uI (uI (uI M1 (q + 1) _ _) (q + 2) _ _) (q + 3) _ _).1 (q + 2) = _
        rw [uI_off (by omega), uI_upd, uI_off (by omega), g2, shl_ge, shl_step _ _ _ (by omega)]
        rfl
      · show (uI (uI (uI M1 (q + 1) _ _) (q + 2) _ _) (q + 3) _ _).1 (q + 3) = _
        rw [uI_upd, uI_off (by omega), uI_off (by omega), g3, shl_ge, shl_step _ _ _ (by omega)]
        rfl
      · show (uR _ (q + 4) _ _).2.1 (q + 4) = _
        rw [uR_upd]
        show va_up (M1.2.1 (q + 4)) _ _ = _
        rw [g4, ← hb1, shl_stepR _ _ _ (by omega)]
        rfl
      · show (uI (uI (uI M1 (q + 1) _ _) (q + 2) _ _) (q + 3) _ _).1 q = _
        rw [uI_off (by omega), uI_off (by omega), uI_off (by omega), g0]
      · show (uR _ (q + 4) _ _).2.1 q = _
        rw [uR_off (by omega)]
        exact g0'
      · exact hag.tr (((Ag.uI (by omega)).tr (Ag.uI (by omega))).tr ((Ag.uI (by omega)).tr (Ag.uR (by omega))))
    · have hj3 : k + 1 + j = Q.length := by omega
      rw [if_neg (fun z => by have := (nI_ltI (by omega) (by omega)).mp z; omega), tF_of hL1.2.1.2.2.2, nI_sub1 (by omega), sR_nI hL1.2.2.2.2.2 (by omega) (by decide) hl0.1]
      simp only [tI_of, qI_of, uR_1, g0, h2]
      rw [nI_sub1 (by omega)]
      rw [hj3] at g1 g2 g3 g4
      refine Or.inr ⟨_, rfl, ?_, ?_, ?_, ?_, ?_, ?_, ?_⟩
      · rw [uI_off (by omega)]; exact g1
      · rw [uI_off (by omega)]; exact g2
      · rw [uI_off (by omega)]; exact g3
      · show (uR _ (q + 4) _ _).2.1 (q + 4) = _
        rw [uR_upd, g4]
      · rw [uI_upd]
        show upd (M1.1 q) _ _ = _
        rw [g0]
      · show (uR _ (q + 4) _ _).2.1 q = _
        rw [uR_off (by omega)]
        exact g0'
      · exact hag.tr ((Ag.uR (by omega)).tr (Ag.uI (by omega)))) (show Q.length - (k + 1) < n by omega) (s := (nI (k + 1), M)) ⟨rfl, (shl_start _ _).symm, (shl_start _ _).symm, (shl_start _ _).symm, (shl_start _ _).symm, rfl, rfl, Ag.rf⟩
  have hlen : (Q.eraseIdx k).length = Q.length - 1 := by rw [List.length_eraseIdx, if_pos hk]
  -- the rooms' new order
  have hsg : ∀ i, i < 10 → ∃ s, s < 10 ∧ M'.2.1 (q + 4) i = some (q + 5 + 2 * p s) ∧ ((i < k ∧ s = i) ∨ (k ≤ i ∧ i + 1 < Q.length ∧ s = i + 1) ∨ (i + 1 = Q.length ∧ s = k) ∨ (Q.length ≤ i ∧ s = i)) := by
    intro i hi
    rw [q4]
    unfold va_up shl
    by_cases c1 : i = Q.length - 1
    · rw [if_pos c1]
      exact ⟨k, by omega, rfl, by omega⟩
    · rw [if_neg c1]
      by_cases c2 : k ≤ i ∧ i + 1 < Q.length
      · rw [if_pos c2]
        exact ⟨i + 1, by omega, h7 _ (by omega), by omega⟩
      · rw [if_neg c2]
        exact ⟨i, hi, h7 i hi, by omega⟩
  obtain ⟨sg, hs⟩ : ∃ sg : Nat → Nat, ∀ i, i < 10 → sg i < 10 ∧ M'.2.1 (q + 4) i = some (q + 5 + 2 * p (sg i)) ∧ ((i < k ∧ sg i = i) ∨ (k ≤ i ∧ i + 1 < Q.length ∧ sg i = i + 1) ∨ (i + 1 = Q.length ∧ sg i = k) ∨ (Q.length ≤ i ∧ sg i = i)) := by
    refine ⟨fun i => if h : i < 10 then Classical.choose (hsg i h) else 0, fun i hi => ?_⟩
    simp only [dif_pos hi]
    exact Classical.choose_spec (hsg i hi)
  refine ⟨M', e, ⟨by unfold QL at hL ⊢; rw [q6]; exact hL, by rw [q5, hlen]; simp [upd], by omega, fun j hj => ?_, fun i => p (sg i), fun i hi => h5 _ (hs i hi).1, fun i j hi hj hij => ?_, fun i hi => (hs i hi).2.1, fun i x hx => ?_⟩, q7⟩
  · obtain ⟨l, hl⟩ := h4 j hj
    exact ⟨l, hl.Ag q7 (by omega) (by omega)⟩
  · have := h6 _ _ (hs i hi).1 (hs j hj).1 hij
    have h1 := (hs i hi).2.2
    have h2 := (hs j hj).2.2
    omega
  · rw [List.getElem?_eraseIdx] at hx
    have hi : i < Q.length - 1 := by
      have := (List.getElem?_eq_some_iff.mp (show (Q.eraseIdx k)[i]? = some x by rw [List.getElem?_eraseIdx]; exact hx)).1
      omega
    have h1 := (hs i (by omega)).2.2
    dsimp only
    rw [q1, q2, q3]
    unfold shl
    by_cases c : i < k
    · rw [if_pos c] at hx
      rw [if_neg (by omega), if_neg (by omega), if_neg (by omega), show sg i = i by omega]
      obtain ⟨r1, r2, r3, r4⟩ := h8 i x hx
      exact ⟨r1, r2, r3, r4.Ag q7 (by omega) (by omega)⟩
    · rw [if_neg c] at hx
      rw [if_pos (by omega), if_pos (by omega), if_pos (by omega), show sg i = i + 1 by omega]
      obtain ⟨r1, r2, r3, r4⟩ := h8 (i + 1) x hx
      exact ⟨r1, r2, r3, r4.Ag q7 (by omega) (by omega)⟩
end QUEUE
