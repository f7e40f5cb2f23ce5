/-! ===== LEVEL 2: the class's tree, read ===== -/
def LT (Sh : Sp) (R : Nat → Nat → Option Nat) (t : Nat) : Prop := Sh t = some (.inl 4) ∧ (R t 0 = some (t + 1) ∧ R t 1 = some (t + 2) ∧ R t 2 = some (t + 3) ∧ R t 3 = some (t + 4) ∧ R t 4 = some (t + 5) ∧ R t 5 = some (t + 6) ∧ R t 6 = some (t + 7) ∧ R t 7 = some (t + 8) ∧ R t 8 = some (t + 9) ∧ R t 10 = some (t + 10) ∧ R t 11 = some (t + 11)) ∧ (Sh (t + 1) = some (.inr (0, 24)) ∧ Sh (t + 2) = some (.inr (0, 24)) ∧ Sh (t + 3) = some (.inr (0, 24)) ∧ Sh (t + 4) = some (.inr (0, 576)) ∧ Sh (t + 5) = some (.inr (0, 24)) ∧ Sh (t + 6) = some (.inr (0, 120)) ∧ Sh (t + 7) = some (.inr (4, 24)) ∧ Sh (t + 8) = some (.inr (4, 24)) ∧ Sh (t + 9) = some (.inr (0, 24)) ∧ Sh (t + 10) = some (.inr (0, 24))) ∧ ∀ i, i < 24 → R (t + 7) i = some (t + 13 + 4 * i) ∧ R (t + 8) i = some (t + 15 + 4 * i)
/-- the int rows of the class's tree -/
def CI (m : Nat → Nat → Int32) (t : Nat) (A : At) (K : Kt) : Prop := ∀ i, i < 24 → m (t + 1) i = A i 0 ∧ m (t + 2) i = A i 1 ∧ m (t + 3) i = nI (K i).length ∧ m (t + 5) i = A i 2 ∧ m (t + 9) i = A i 3 ∧ m (t + 10) i = A i 4 ∧ (∀ s, s < 5 → m (t + 6) (5 * i + s) = A i (5 + s)) ∧ (K i).length ≤ 24 ∧ ∀ k, k < (K i).length → m (t + 4) (24 * i + k) = nI ((K i).getD k 0)
def CW (Sh : Sp) (M : Mm) (t : Nat) (W : Wt) : Prop := (∀ i, i < 24 → WR Sh M (t + 13 + 4 * i) 8 (W i 0) ∧ WR Sh M (t + 15 + 4 * i) 8 (W i 1)) ∧ WR Sh M (t + 11) 0 []
def CT (Sh : Sp) (M : Mm) (t : Nat) (A : At) (K : Kt) (W : Wt) : Prop := LT Sh M.2.1 t ∧ CI M.1 t A K ∧ CW Sh M t W
/-- an attribute by an int -/
def rd (A : At) (v : Int32) (k : Nat) (d : Int32) : Int32 := if v < 0 then d else if v < 24 then A v.toNatClampNeg k else d
theorem lt24 {j : Nat} (h : j < 24) : nI j < 24 := show nI j < nI 24 from (nI_ltI (by omega) (by decide)).mpr h
theorem lt5 {j : Nat} (h : j < 5) : nI j < 5 := show nI j < nI 5 from (nI_ltI (by omega) (by decide)).mpr h
theorem rd_nI {A : At} {j k : Nat} {d : Int32} (h : j < 24) : rd A (nI j) k d = A j k := by
  unfold rd
  rw [if_neg (nI_pos (by omega)), if_pos (lt24 h), nI_clamp (by omega)]
theorem rd_neg {A : At} {k : Nat} {d : Int32} : rd A (-1) k d = d := if_pos (by decide)
theorem isN_nI {A : At} {j : Nat} (h : j < 2 ^ 31) : isN A (nI j) ↔ live A j := ⟨fun ⟨k, hk, e⟩ => by have := nI_inj h hk.lt e; subst this; exact hk, fun hl => ⟨j, hl, rfl⟩⟩
theorem isN_neg {A : At} : ¬ isN A (-1) := fun ⟨k, hk, e⟩ => nI_ne_neg hk.lt e.symm
theorem orN_isN {A : At} {v : Int32} (h : orN A v) (hv : v ≠ -1) : isN A v := h.resolve_left hv
section CREAD
variable {Sh : Sp} {M : Mm} {t n : Nat} {A : At} {K : Kt} {W : Wt}
theorem c_has (h : CT Sh M t A K W) (v : Int32) : fX4_has n Sh M t v = some (bI (isN A v)) := by
  unfold fX4_has
  by_cases h0 : v < 0
  · rw [if_pos h0, bI_neg]
    rintro ⟨k, hk, e⟩
    subst e
    exact nI_pos hk.lt h0
  · rw [if_neg h0]
    by_cases h1 : v < 24
    · obtain ⟨j, hj, rfl⟩ := live_nI h0 h1
      rw [if_pos h1, tF_of h.1.2.1.1, aI_nI h.1.2.2.1.1 hj (by decide), (h.2.1 j hj).1, bI_congr (isN_nI (A := A) (show j < 2 ^ 31 by omega))]
      by_cases hl : A j 0 = -1
      · rw [if_pos hl, bI_neg (fun z => z.2 hl)]
      · rw [if_neg hl, bI_pos ⟨hj, hl⟩]
    · rw [if_neg h1, bI_neg]
      rintro ⟨k, hk, e⟩
      subst e
      exact h1 (lt24 hk.1)
theorem c_roleOf (h : CT Sh M t A K W) (v : Int32) : fX4_roleOf n Sh M t v = some (rd A v 0 (-1)) := by
  unfold fX4_roleOf rd
  by_cases h0 : v < 0
  · rw [if_pos h0, if_pos h0]
  · rw [if_neg h0, if_neg h0]
    by_cases h1 : v < 24
    · obtain ⟨j, hj, rfl⟩ := live_nI h0 h1
      rw [if_pos h1, if_pos h1, tF_of h.1.2.1.1, aI_nI h.1.2.2.1.1 hj (by decide), (h.2.1 j hj).1, nI_clamp (by omega)]
    · rw [if_neg h1, if_neg h1]
theorem c_parentOf (h : CT Sh M t A K W) (v : Int32) : fX4_parentOf n Sh M t v = some (rd A v 1 (-1)) := by
  unfold fX4_parentOf rd
  by_cases h0 : v < 0
  · rw [if_pos h0, if_pos h0]
  · rw [if_neg h0, if_neg h0]
    by_cases h1 : v < 24
    · obtain ⟨j, hj, rfl⟩ := live_nI h0 h1
      rw [if_pos h1, if_pos h1, tF_of h.1.2.1.2.1, aI_nI h.1.2.2.1.2.1 hj (by decide), (h.2.1 j hj).2.1, nI_clamp (by omega)]
    · rw [if_neg h1, if_neg h1]
theorem c_labellerOf (h : CT Sh M t A K W) (v : Int32) : fX4_labellerOf n Sh M t v = some (rd A v 2 (-1)) := by
  unfold fX4_labellerOf rd
  by_cases h0 : v < 0
  · rw [if_pos h0, if_pos h0]
  · rw [if_neg h0, if_neg h0]
    by_cases h1 : v < 24
    · obtain ⟨j, hj, rfl⟩ := live_nI h0 h1
      rw [if_pos h1, if_pos h1, tF_of h.1.2.1.2.2.2.2.1, aI_nI h.1.2.2.1.2.2.2.2.1 hj (by decide), (h.2.1 j hj).2.2.2.1, nI_clamp (by omega)]
    · rw [if_neg h1, if_neg h1]
theorem c_returnOf (h : CT Sh M t A K W) (v : Int32) : fX4_returnOf n Sh M t v = some (rd A v 4 (-1)) := by
  unfold fX4_returnOf rd
  by_cases h0 : v < 0
  · rw [if_pos h0, if_pos h0]
  · rw [if_neg h0, if_neg h0]
    by_cases h1 : v < 24
    · obtain ⟨j, hj, rfl⟩ := live_nI h0 h1
      rw [if_pos h1, if_pos h1, tF_of h.1.2.1.2.2.2.2.2.2.2.2.2.1, aI_nI h.1.2.2.1.2.2.2.2.2.2.2.2.2 hj (by decide), (h.2.1 j hj).2.2.2.2.2.1, nI_clamp (by omega)]
    · rw [if_neg h1, if_neg h1]
theorem c_isOpen (h : CT Sh M t A K W) (v : Int32) : fX4_isOpen n Sh M t v = some (bI (rd A v 3 0 ≠ 0)) := by
  unfold fX4_isOpen rd
  by_cases h0 : v < 0
  · rw [if_pos h0, if_pos h0, bI_neg (fun z => z rfl)]
  · rw [if_neg h0, if_neg h0]
    by_cases h1 : v < 24
    · obtain ⟨j, hj, rfl⟩ := live_nI h0 h1
      rw [if_pos h1, if_pos h1, tF_of h.1.2.1.2.2.2.2.2.2.2.2.1, aI_nI h.1.2.2.1.2.2.2.2.2.2.2.2.1 hj (by decide), (h.2.1 j hj).2.2.2.2.1, nI_clamp (by omega)]
      by_cases hz : A j 3 = 0
      · rw [if_pos hz, bI_neg (fun z => z hz)]
      · rw [if_neg hz, bI_pos hz]
    · rw [if_neg h1, if_neg h1, bI_neg (fun z => z rfl)]
theorem c_setting (h : CT Sh M t A K W) (v : Int32) {s : Nat} (hs : s < 5) : fX4_setting n Sh M t v (nI s) = some (rd A v (5 + s) 0) := by
  unfold fX4_setting rd
  by_cases h0 : v < 0
  · rw [if_pos h0, if_pos h0]
  · rw [if_neg h0, if_neg h0]
    by_cases h1 : v < 24
    · obtain ⟨j, hj, rfl⟩ := live_nI h0 h1
      rw [if_pos h1, if_pos h1, if_neg (nI_pos (by omega)), if_pos (lt5 hs), tF_of h.1.2.1.2.2.2.2.2.1, show (nI j * 5 + nI s) = nI (5 * j + s) from by rw [show (5 : Int32) = nI 5 from rfl, nI_mulm, nI_addm, Nat.mul_comm], aI_nI h.1.2.2.1.2.2.2.2.2.1 (by omega) (by decide), (h.2.1 j hj).2.2.2.2.2.2.1 s hs, nI_clamp (by omega)]
    · rw [if_neg h1, if_neg h1]
theorem c_set0 (h : CT Sh M t A K W) (v : Int32) : fX4_setting n Sh M t v 0 = some (rd A v 5 0) := c_setting h v (s := 0) (by decide)
theorem c_set1 (h : CT Sh M t A K W) (v : Int32) : fX4_setting n Sh M t v 1 = some (rd A v 6 0) := c_setting h v (s := 1) (by decide)
theorem c_set2 (h : CT Sh M t A K W) (v : Int32) : fX4_setting n Sh M t v 2 = some (rd A v 7 0) := c_setting h v (s := 2) (by decide)
theorem c_set3 (h : CT Sh M t A K W) (v : Int32) : fX4_setting n Sh M t v 3 = some (rd A v 8 0) := c_setting h v (s := 3) (by decide)
theorem c_set4 (h : CT Sh M t A K W) (v : Int32) : fX4_setting n Sh M t v 4 = some (rd A v 9 0) := c_setting h v (s := 4) (by decide)
theorem c_kidCount (h : CT Sh M t A K W) {j : Nat} (hj : j < 24) : fX4_kidCount n Sh M t (nI j) = some (nI (K j).length) := by
  unfold fX4_kidCount
  rw [if_neg (nI_pos (by omega)), if_pos (lt24 hj), tF_of h.1.2.1.2.2.1, aI_nI h.1.2.2.1.2.2.1 hj (by decide), (h.2.1 j hj).2.2.1]
theorem c_kidCount_neg : fX4_kidCount n Sh M t (-1) = some 0 := if_pos (by decide)
theorem c_kidAt (h : CT Sh M t A K W) {j : Nat} (hj : j < 24) (v : Int32) : fX4_kidAt n Sh M t (nI j) v = some (kAt (K j) v) := by
  unfold fX4_kidAt kAt
  have hl := (h.2.1 j hj).2.2.2.2.2.2.2.1
  rw [if_neg (nI_pos (by omega)), if_pos (lt24 hj)]
  by_cases h0 : v < 0
  · rw [if_pos h0, if_pos h0]
  · rw [if_neg h0, if_neg h0, tF_of h.1.2.1.2.2.1, aI_nI h.1.2.2.1.2.2.1 hj (by decide), (h.2.1 j hj).2.2.1]
    obtain ⟨k, hk, rfl⟩ := nI_of h0
    simp only [lt_nI hk (show (K j).length < 2 ^ 31 by omega)]
    rw [nI_clamp hk]
    by_cases hkl : k < (K j).length
    · rw [if_pos hkl, tF_of h.1.2.1.2.2.2.1, show (nI j * 24 + nI k) = nI (24 * j + k) from by rw [show (24 : Int32) = nI 24 from rfl, nI_mulm, nI_addm, Nat.mul_comm], aI_nI h.1.2.2.1.2.2.2.1 (by omega) (by decide), (h.2.1 j hj).2.2.2.2.2.2.2.2 k hkl, List.getElem?_eq_getElem hkl, List.getD_eq_getElem?_getD, List.getElem?_eq_getElem hkl]
      rfl
    · rw [if_neg hkl, List.getElem?_eq_none_iff.mpr (by omega)]
      rfl
theorem c_kidAt_neg (v : Int32) : fX4_kidAt n Sh M t (-1) v = some (-1) := if_pos (by decide)
theorem c_textOf (h : CT Sh M t A K W) {j : Nat} (hj : j < 24) : fX4_textOf n Sh M t (nI j) = some (t + 13 + 4 * j) := by
  unfold fX4_textOf
  rw [if_neg (nI_pos (by omega)), if_pos (lt24 hj), tF_of h.1.2.1.2.2.2.2.2.2.1, aR_nI h.1.2.2.1.2.2.2.2.2.2.1 hj (by decide) (h.1.2.2.2 j hj).1]
theorem c_labelOf (h : CT Sh M t A K W) {j : Nat} (hj : j < 24) : fX4_labelOf n Sh M t (nI j) = some (t + 15 + 4 * j) := by
  unfold fX4_labelOf
  rw [if_neg (nI_pos (by omega)), if_pos (lt24 hj), tF_of h.1.2.1.2.2.2.2.2.2.2.1, aR_nI h.1.2.2.1.2.2.2.2.2.2.2.1 hj (by decide) (h.1.2.2.2 j hj).2]
theorem c_textW (h : CT Sh M t A K W) {j : Nat} (hj : j < 24) : WR Sh M (t + 13 + 4 * j) 8 (W j 0) := (h.2.2.1 j hj).1
theorem c_labelW (h : CT Sh M t A K W) {j : Nat} (hj : j < 24) : WR Sh M (t + 15 + 4 * j) 8 (W j 1) := (h.2.2.1 j hj).2
theorem c_lowestFree (h : CT Sh M t A K W) (hn : 24 < n) : ∃ r, fX4_lowestFree n Sh M t = some r ∧ ((∃ j, j < 24 ∧ r = nI j ∧ ¬ live A j ∧ ∀ i, i < j → live A i) ∨ (r = -1 ∧ ∀ i, i < 24 → live A i)) := by
  unfold fX4_lowestFree fX4_lowestFree_2
  refine iter_inv (f := fun s => fX4_lowestFree_2b n Sh M t s) 24 (fun j s => s = nI j ∧ ∀ i, i < j → live A i) _ (fun j s hj hI => ?_) hn ⟨rfl, fun i hi => absurd hi (Nat.not_lt_zero i)⟩
  obtain ⟨rfl, hI⟩ := hI
  unfold fX4_lowestFree_2b
  by_cases h24 : j < 24
  · rw [if_pos (lt24 h24), bind_of (c_has h _)]
    by_cases hl : live A j
    · rw [i0 ((isN_nI (by omega)).mpr hl)]
      refine Or.inl ⟨h24, _, rfl, nI_add1 j, fun i hi => ?_⟩
      by_cases e : i = j
      · rw [e]; exact hl
      · exact hI i (by omega)
    · rw [i0n (fun z => hl ((isN_nI (by omega)).mp z))]
      exact Or.inr ⟨_, rfl, Or.inl ⟨j, h24, rfl, hl, hI⟩⟩
  · have : j = 24 := by omega
    subst this
    rw [if_neg (by decide)]
    exact Or.inr ⟨-1, rfl, Or.inr ⟨rfl, hI⟩⟩
theorem c_placeOf (h : CT Sh M t A K W) (hW : WF A K) (hn : 24 < n) {a : Nat} (ha : live A a) : fX4_placeOf n Sh M t (nI a) = some (nI (rank A K a)) := by
  unfold fX4_placeOf fX4_placeOf_8
  rw [bind_of (c_parentOf h _), rd_nI ha.1]
  rcases hW.par ha with e | ⟨p, hp, e⟩
  · rw [e]
    refine iter_end' (by omega) ?_
    unfold fX4_placeOf_8b rank
    rw [bind_of c_kidCount_neg, if_neg (by decide), e, if_pos (by decide)]
    rfl
  · obtain ⟨k1, k2, k3⟩ := rank_eq hW ha hp e
    rw [e]
    obtain ⟨hr, he⟩ := List.getElem?_eq_some_iff.mp k2
    have hl := kids_len hW hp
    obtain ⟨r, e', q⟩ := iter_inv (f := fun s => fX4_placeOf_8b n Sh M t (nI a) (nI p) s) 24 (fun j s => s = nI j ∧ j ≤ rank A K a) (fun r => r = nI (rank A K a)) (fun j s hj hI => by
      obtain ⟨rfl, hI⟩ := hI
      unfold fX4_placeOf_8b
      have hjl : j < (K p).length := by omega
      rw [bind_of (c_kidCount h hp.1), if_pos ((nI_ltI (by omega) (by omega)).mpr hjl), bind_of (c_kidAt h hp.1 _), kAt_nI (by omega), List.getElem?_eq_getElem hjl]
      by_cases hx : (K p)[j] = a
      · rw [hx, if_pos (show oi (some a) = nI a from rfl)]
        refine Or.inr ⟨_, rfl, ?_⟩
        rw [k1, idx_get (hW.2.2.2.1 p hp) (by rw [List.getElem?_eq_getElem hjl, hx])]
      · have hlv := (hW.2.2.1 p hp (K p)[j] (List.getElem_mem hjl)).1
        rw [if_neg (show ¬ oi (some (K p)[j]) = nI a from fun z => hx (nI_inj hlv.lt ha.lt z))]
        refine Or.inl ⟨by omega, _, rfl, nI_add1 j, ?_⟩
        rcases Nat.lt_or_eq_of_le hI with z | z
        · exact z
        · subst z; exact absurd he hx) hn (s := 0) ⟨rfl, Nat.zero_le _⟩
    rw [e', q]
theorem c_liesBelow (h : CT Sh M t A K W) (hW : WF A K) (hn : 24 < n) {v : Int32} (hv : orN A v) {b : Nat} (hb : b < 2 ^ 31) : fX4_liesBelow n Sh M t v (nI b) = some (bI (b ∈ chain A (rd A v 1 (-1)))) := by
  unfold fX4_liesBelow fX4_liesBelow_9
  rw [bind_of (c_parentOf h _)]
  have h0 : orN A (rd A v 1 (-1)) := by
    rcases hv with e | ⟨a, ha, e⟩
    · rw [e, rd_neg]; exact Or.inl rfl
    · rw [e, rd_nI ha.1]; exact hW.par ha
  generalize rd A v 1 (-1) = u at *
  obtain ⟨r, e, q⟩ := iter_inv (f := fun s : Int32 × Int32 => fX4_liesBelow_9b n Sh M t v (nI b) s.1 s.2) 24 (fun j s => s.2 = nI j ∧ orN A s.1 ∧ (chain A s.1).length + j ≤ 24 ∧ (b ∈ chain A s.1 ↔ b ∈ chain A u)) (fun r => r = bI (b ∈ chain A u)) (fun j s hj hI => by
    obtain ⟨v1, v2⟩ := s
    obtain ⟨e2, ho, hd, he⟩ := hI
    dsimp only at e2 ho hd he
    subst e2
    unfold fX4_liesBelow_9b
    by_cases h24 : j < 24
    · rw [if_pos (lt24 h24)]
      rcases ho with e | ⟨p, hp, e⟩
      · subst e
        rw [if_pos rfl]
        refine Or.inr ⟨0, rfl, (bI_neg ?_).symm⟩
        rw [← he, chain_neg (by decide)]
        exact List.not_mem_nil
      · subst e
        rw [if_neg (nI_ne_neg hp.lt)]
        rw [chain_cons hW hp] at he hd
        by_cases hpb : p = b
        · subst hpb
          rw [if_pos rfl]
          exact Or.inr ⟨1, rfl, (bI_pos (he.mp List.mem_cons_self)).symm⟩
        · rw [if_neg (fun z => hpb (nI_inj hp.lt hb z)), bind_of (c_parentOf h _), rd_nI hp.1]
          rw [List.length_cons] at hd
          exact Or.inl ⟨h24, _, rfl, nI_add1 j, hW.par hp, by show (chain A (A p 1)).length + (j + 1) ≤ 24; omega, by rw [← he, List.mem_cons]; exact ⟨Or.inr, fun z => z.resolve_left (fun y => hpb y.symm)⟩⟩
    · have : j = 24 := by omega
      subst this
      rw [if_neg (show ¬ nI 24 < 24 by decide)]
      refine Or.inr ⟨0, rfl, (bI_neg ?_).symm⟩
      have h9 : chain A v1 = [] := List.length_eq_zero_iff.mp (by omega)
      rw [← he, h9]
      exact List.not_mem_nil) hn (s := (u, 0)) ⟨rfl, h0, by have := chain_len hW h0; show (chain A u).length + 0 ≤ 24; omega, Iff.rfl⟩
  rw [e, q]
theorem c_isOut (h : CT Sh M t A K W) {a : Nat} (ha : a < 24) : fX4_isOut n Sh M t (nI a) = some (bI (outP A a)) := by
  unfold fX4_isOut fX4_isOut_28 outP
  rw [bind_of (c_set0 h _), rd_nI ha]
  by_cases h1 : A a 5 = 1
  · rw [if_pos h1, bI_pos (Or.inl h1)]
  · rw [if_neg h1, bind_of (c_roleOf h _), rd_nI ha]
    by_cases h2 : A a 0 = 6
    · rw [if_pos h2, bind_of (c_isOpen h _), rd_nI ha]
      by_cases h3 : A a 3 = 0
      · rw [i0n (fun z => z h3), bI_pos (Or.inr ⟨h2, h3⟩)]
      · rw [i0 h3, bI_neg (fun z => z.elim h1 (fun y => h3 y.2))]
    · rw [if_neg h2, bI_neg (fun z => z.elim h1 (fun y => h2 y.1))]
theorem c_isShown (h : CT Sh M t A K W) (hW : WF A K) (hn : 24 < n) {v : Int32} (hv : orN A v) : fX4_isShown n Sh M t v = some (bI (isN A v ∧ shownP A v)) := by
  unfold fX4_isShown fX4_isShown_4
  have fin : shownP A v → fX4_isShown_37 n Sh M t v = some (bI (isN A v ∧ shownP A v)) := fun hs => by
    unfold fX4_isShown_37
    rw [bind_of (c_has h _), chk_pos (bI_bit _), bI_congr (show isN A v ↔ isN A v ∧ shownP A v from ⟨fun z => ⟨z, hs⟩, fun z => z.1⟩)]
  obtain ⟨r, e, q⟩ := iter_inv (f := fun s : Int32 × Int32 => fX4_isShown_4b n Sh M t v s.1 s.2) 24 (fun j s => s.2 = nI j ∧ orN A s.1 ∧ (chain A s.1).length + j ≤ 24 ∧ (shownP A s.1 ↔ shownP A v)) (fun r => r = bI (isN A v ∧ shownP A v)) (fun j s hj hI => by
    obtain ⟨v1, v2⟩ := s
    obtain ⟨e2, ho, hd, he⟩ := hI
    dsimp only at e2 ho hd he
    subst e2
    unfold fX4_isShown_4b
    by_cases h24 : j < 24
    · rw [if_pos (lt24 h24)]
      rcases ho with e | ⟨p, hp, e⟩
      · subst e
        rw [if_pos rfl, fin (he.mp (fun x hx => by rw [chain_neg (by decide)] at hx; exact absurd hx List.not_mem_nil))]
        exact Or.inr ⟨_, rfl, rfl⟩
      · subst e
        rw [if_neg (nI_ne_neg hp.lt), bind_of (c_isOut h hp.1)]
        have hc : shownP A (nI p) ↔ (¬ outP A p ∧ shownP A (A p 1)) := by
          unfold shownP
          rw [chain_cons hW hp]
          simp only [List.mem_cons, forall_eq_or_imp]
        rw [chain_cons hW hp, List.length_cons] at hd
        by_cases ho : outP A p
        · rw [i0 ho]
          exact Or.inr ⟨0, rfl, (bI_neg (fun z => (hc.mp (he.mpr z.2)).1 ho)).symm⟩
        · rw [i0n ho, bind_of (c_parentOf h _), rd_nI hp.1]
          exact Or.inl ⟨h24, _, rfl, nI_add1 j, hW.par hp, by show (chain A (A p 1)).length + (j + 1) ≤ 24; omega, by rw [← he, hc]; exact ⟨fun z => ⟨ho, z⟩, fun z => z.2⟩⟩
    · have : j = 24 := by omega
      subst this
      rw [if_neg (show ¬ nI 24 < 24 by decide)]
      have h9 : chain A v1 = [] := List.length_eq_zero_iff.mp (by omega)
      rw [fin (he.mp (fun x hx => by rw [h9] at hx; exact absurd hx List.not_mem_nil))]
      exact Or.inr ⟨_, rfl, rfl⟩) hn (s := (v, 0)) ⟨rfl, hv, by have := chain_len hW hv; show (chain A v).length + 0 ≤ 24; omega, Iff.rfl⟩
  rw [e, q]
theorem c_regionOf (h : CT Sh M t A K W) (hW : WF A K) (hn : 24 < n) {a : Nat} (ha : live A a) : fX4_regionOf n Sh M t (nI a) = some (regn A (nI a)) := by
  unfold fX4_regionOf fX4_regionOf_4
  have h0 : orN A (nI a) := Or.inr ⟨a, ha, rfl⟩
  obtain ⟨r, e, q⟩ := iter_inv (f := fun s : Int32 × Int32 => fX4_regionOf_4b n Sh M t (nI a) s.1 s.2) 24 (fun j s => s.2 = nI j ∧ orN A s.1 ∧ (chain A s.1).length + j ≤ 24 ∧ regn A s.1 = regn A (nI a)) (fun r => r = regn A (nI a)) (fun j s hj hI => by
    obtain ⟨v1, v2⟩ := s
    obtain ⟨e2, ho, hd, he⟩ := hI
    dsimp only at e2 ho hd he
    subst e2
    unfold fX4_regionOf_4b fX4_regionOf_24
    by_cases h24 : j < 24
    · rw [if_pos (lt24 h24)]
      rcases ho with e | ⟨p, hp, e⟩
      · subst e
        rw [if_pos rfl]
        exact Or.inr ⟨-1, rfl, by rw [← he, regn_neg]⟩
      · subst e
        rw [regn_nI hW hp] at he
        rw [chain_cons hW hp, List.length_cons] at hd
        rw [if_neg (nI_ne_neg hp.lt), bind_of (c_set3 h _), bind_of (c_set3 h _), rd_nI hp.1]
        by_cases h8 : A p 8 = 0
        · rw [if_pos h8] at he
          rw [if_pos h8, bind_of (c_parentOf h _), rd_nI hp.1]
          exact Or.inl ⟨h24, _, rfl, nI_add1 j, hW.par hp, by show (chain A (A p 1)).length + (j + 1) ≤ 24; omega, he⟩
        · rw [if_neg h8] at he
          rw [if_neg h8]
          by_cases h81 : A p 8 = 1
          · rw [if_pos h81] at he
            rw [if_pos h81]
            exact Or.inr ⟨-1, rfl, he⟩
          · rw [if_neg h81] at he
            rw [if_neg h81]
            exact Or.inr ⟨nI p, rfl, he⟩
    · have : j = 24 := by omega
      subst this
      rw [if_neg (show ¬ nI 24 < 24 by decide)]
      have h9 : chain A v1 = [] := List.length_eq_zero_iff.mp (by omega)
      refine Or.inr ⟨-1, rfl, ?_⟩
      rw [← he]
      unfold regn
      rw [h9]
      rfl) hn (s := (nI a, 0)) ⟨rfl, h0, by have := chain_len hW h0; show (chain A (nI a)).length + 0 ≤ 24; omega, rfl⟩
  rw [e, q]
end CREAD
