/-! ===== LEVEL 2: the trap, who may have the focus, the order ===== -/
noncomputable def tpF (A : At) : Nat → Int32
  | 0 => -1
  | N + 1 => cif (live A N ∧ A N 3 ≠ 0 ∧ shownP A (nI N) ∧ (tpF A N = -1 ∨ A (tpF A N).toNatClampNeg 3 < A N 3)) (nI N) (tpF A N)
/-- the dialog that holds the focus -/
noncomputable def trapV (A : At) : Int32 := tpF A 24
/-- openings are no negative numbers; a free number has none -/
def WN (A : At) : Prop := (∀ j, live A j → ¬ A j 3 < 0) ∧ ∀ j, j < 24 → ¬ live A j → A j 3 = 0
theorem tpF_or (A : At) : ∀ N, orN A (tpF A N) := by
  intro N
  induction N with
  | zero => exact Or.inl rfl
  | succ N ih =>
    unfold tpF
    by_cases h : live A N ∧ A N 3 ≠ 0 ∧ shownP A (nI N) ∧ (tpF A N = -1 ∨ A (tpF A N).toNatClampNeg 3 < A N 3)
    · rw [cif_pos h]; exact Or.inr ⟨N, h.1, rfl⟩
    · rw [cif_neg h]; exact ih
def focP (r : Int32) : Prop := r = 2 ∨ r = 3 ∨ r = 5
def admP (A : At) (j : Nat) : Prop := focP (A j 0) ∧ shownP A (nI j) ∧ A j 6 ≠ 1 ∧ A j 7 ≠ -1 ∧ (trapV A = -1 ∨ (trapV A).toNatClampNeg ∈ chain A (A j 1))
noncomputable def ordT (A : At) (K : Kt) (tab : Int32) : List Nat := (pre K 0).filter (fun j => cB (A j 7 = tab ∧ admP A j))
def tabs : List Int32 := [1, 2, 3, 4, 5, 6, 7, 8, 9, 0]
noncomputable def ordL (A : At) (K : Kt) : List Nat := tabs.flatMap (ordT A K)
theorem cB_iff {P : Prop} : cB P = true ↔ P := by
  by_cases h : P
  · rw [cB_pos h]; exact ⟨fun _ => h, fun _ => rfl⟩
  · rw [cB_neg h]; exact ⟨fun z => absurd z (by decide), fun z => absurd z h⟩
theorem key_nodup {α β : Type} (key : α → β) (g : β → List α) : ∀ (L : List β), L.Nodup → (∀ b ∈ L, (g b).Nodup ∧ ∀ x ∈ g b, key x = b) → (L.flatMap g).Nodup := by
  intro L
  induction L with
  | nil => intro _ _; exact List.nodup_nil
  | cons b L ih =>
    intro hn h
    obtain ⟨hb, hL⟩ := List.nodup_cons.mp hn
    rw [List.flatMap_cons]
    refine List.nodup_append.mpr ⟨(h b List.mem_cons_self).1, ih hL (fun c hc => h c (List.mem_cons_of_mem _ hc)), ?_⟩
    intro x hx y hy e
    subst e
    obtain ⟨c, hc, hy⟩ := List.mem_flatMap.mp hy
    have e1 := (h b List.mem_cons_self).2 x hx
    have e2 := (h c (List.mem_cons_of_mem _ hc)).2 x hy
    rw [← e1, e2] at hb
    exact hb hc
theorem ordT_mem {A : At} {K : Kt} {tab : Int32} {x : Nat} (h : x ∈ ordT A K tab) : x ∈ pre K 0 ∧ A x 7 = tab ∧ admP A x := by
  obtain ⟨h1, h2⟩ := List.mem_filter.mp h
  exact ⟨h1, cB_iff.mp h2⟩
theorem ordL_mem {A : At} {K : Kt} {x : Nat} (h : x ∈ ordL A K) : x ∈ pre K 0 ∧ admP A x := by
  obtain ⟨b, -, hx⟩ := List.mem_flatMap.mp h
  obtain ⟨h1, -, h2⟩ := ordT_mem hx
  exact ⟨h1, h2⟩
section TRAP
variable {Sh : Sp} {M : Mm} {t μ n : Nat} {A : At} {K : Kt} {W : Wt}
theorem WF.root (h : WF A K) : live A 0 := h.1.1
theorem ordL_live (hW : WF A K) {x : Nat} (h : x ∈ ordL A K) : live A x := pre_live hW 0 hW.root x (ordL_mem h).1
theorem ordL_nodup (hW : WF A K) : (ordL A K).Nodup := key_nodup (fun x => A x 7) (ordT A K) tabs (by decide +kernel) (fun b _ => ⟨(pre_nodup hW 0 hW.root).sublist List.filter_sublist, fun x hx => (ordT_mem hx).2.1⟩)
theorem ordL_len (hW : WF A K) : (ordL A K).length ≤ 24 := nodup_le 24 _ (ordL_nodup hW) (fun x hx => (ordL_live hW hx).1)
theorem m_trapNow (hL : ML Sh M.2.1 μ) (hP : MP (M.1 (μ + 1)) A K W) (hW : WF A K) (hN : WN A) (hn : 24 < n) : fX7_trapNow n Sh M μ = some (trapV A) := by
  unfold fX7_trapNow fX7_trapNow_4
  refine iter_seq (N := 24) (fun j => (tpF A j, nI j)) (fun j hj => ?_) ?_ hn rfl
  · unfold fX7_trapNow_4b fX7_trapNow_42 fX7_trapNow_43 fX7_trapNow_74 fX7_trapNow_70 fX7_trapNow_75
    rw [if_pos (lt24 hj), bind_of (mo0 hL hP hj)]
    show _ = some (Sum.inl (cif _ _ _, _))
    by_cases hl : live A j
    · rw [i1 hl, bind_of (mo10 hL hP hl)]
      by_cases h3 : A j 3 = 0
      · rw [if_pos (by rw [h3]; decide), if_pos rfl, cif_neg (fun z => z.2.1 h3), nI_add1]
      · rw [if_neg (fun z => hN.1 j hl (by
          rcases Int32.lt_or_eq_of_le z with y | y
          · exact y
          · exact absurd y h3)), bind_of (m_isShown hL hP hW hn hl)]
        by_cases hs : shownP A (nI j)
        · rw [i0 hs, if_neg (by decide)]
          by_cases hv : tpF A j = -1
          · rw [if_pos hv, cif_pos ⟨hl, h3, hs, Or.inl hv⟩, nI_add1]
          · rw [if_neg hv]
            obtain ⟨p, hp, e⟩ := (tpF_or A j).resolve_left hv
            rw [e, bind_of (mo10 hL hP hl), bind_of (mo10 hL hP hp), nI_clamp hp.lt]
            by_cases hlt : A p 3 < A j 3
            · rw [if_neg (Int32.not_le.mpr hlt), cif_pos ⟨hl, h3, hs, Or.inr hlt⟩, nI_add1]
            · rw [if_pos (Int32.not_lt.mp hlt), cif_neg (fun z => z.2.2.2.elim (fun y => nI_ne_neg hp.lt y) hlt), nI_add1]
        · rw [i0n hs, if_pos rfl, cif_neg (fun z => hs z.2.2.1), nI_add1]
    · rw [i1n hl, if_pos rfl, cif_neg (fun z => hl z.1), nI_add1]
  · unfold fX7_trapNow_4b
    rw [if_neg (show ¬ nI 24 < 24 by decide)]
    rfl
theorem c_topDialog (h : CT Sh M t A K W) (hW : WF A K) (hN : WN A) (hn : 24 < n) : fX4_topDialog n Sh M t = some (trapV A) := by
  unfold fX4_topDialog fX4_topDialog_4
  refine iter_seq (N := 24) (fun j => (tpF A j, nI j)) (fun j hj => ?_) ?_ hn rfl
  · unfold fX4_topDialog_4b fX4_topDialog_48 fX4_topDialog_46 fX4_topDialog_48
    rw [if_pos (lt24 hj), bind_of (c_isOpen h _), rd_nI hj]
    show _ = some (Sum.inl (cif _ _ _, _))
    by_cases h3 : A j 3 = 0
    · rw [i0n (fun z => z h3), cif_neg (fun z => z.2.1 h3), nI_add1]
    · have hl : live A j := Classical.byContradiction (fun z => h3 (hN.2 j hj z))
      rw [i0 h3, bind_of (c_isShown h hW hn (Or.inr ⟨j, hl, rfl⟩))]
      by_cases hs : shownP A (nI j)
      · rw [i0 ⟨⟨j, hl, rfl⟩, hs⟩]
        by_cases hv : tpF A j = -1
        · rw [if_pos hv, cif_pos ⟨hl, h3, hs, Or.inl hv⟩, nI_add1]
        · rw [if_neg hv]
          obtain ⟨p, hp, e⟩ := (tpF_or A j).resolve_left hv
          rw [e, tF_of h.1.2.1.2.2.2.2.2.2.2.2.1, aI_nI h.1.2.2.1.2.2.2.2.2.2.2.2.1 hj (by decide), (h.2.1 j hj).2.2.2.2.1, tF_of h.1.2.1.2.2.2.2.2.2.2.2.1, aI_nI h.1.2.2.1.2.2.2.2.2.2.2.2.1 hp.1 (by decide), (h.2.1 p hp.1).2.2.2.2.1, nI_clamp hp.lt]
          by_cases hlt : A p 3 < A j 3
          · rw [if_neg (Int32.not_le.mpr hlt), cif_pos ⟨hl, h3, hs, Or.inr hlt⟩, nI_add1]
          · rw [if_pos (Int32.not_lt.mp hlt), cif_neg (fun z => z.2.2.2.elim (fun y => nI_ne_neg hp.lt y) hlt), nI_add1]
      · rw [i0n (fun z => hs z.2), cif_neg (fun z => hs z.2.2.1), nI_add1]
  · unfold fX4_topDialog_4b
    rw [if_neg (show ¬ nI 24 < 24 by decide)]
    rfl
theorem m_mayFocus (hL : ML Sh M.2.1 μ) (hP : MP (M.1 (μ + 1)) A K W) (hW : WF A K) (hN : WN A) (hn : 24 < n) {a : Nat} (ha : live A a) : fX7_mayFocus n Sh M μ (nI a) = some (bI (admP A a)) := by
  have main : focP (A a 0) → fX7_mayFocus_22 n Sh M μ (nI a) = some (bI (admP A a)) := by
    intro hr
    unfold fX7_mayFocus_22 fX7_mayFocus_73
    rw [bind_of (m_isShown hL hP hW hn ha)]
    by_cases hs : shownP A (nI a)
    · rw [i0 hs, bind_of (mo6 hL hP ha)]
      by_cases h6 : A a 6 = 1
      · rw [if_pos h6, bI_neg (fun z => z.2.2.1 h6)]
      · rw [if_neg h6, bind_of (mo7 hL hP ha)]
        by_cases h7 : A a 7 = -1
        · rw [if_pos h7, bI_neg (fun z => z.2.2.2.1 h7)]
        · rw [if_neg h7, bind_of (m_trapNow hL hP hW hN hn)]
          rcases tpF_or A 24 with e | ⟨p, hp, e⟩
          · have e' : trapV A = -1 := e
            rw [if_pos e', bI_pos ⟨hr, hs, h6, h7, Or.inl e'⟩]
          · have e' : trapV A = nI p := e
            rw [e', if_neg (nI_ne_neg hp.lt), bind_of (m_isBelow hL hP hW hn ha hp.1)]
            by_cases hb : p ∈ chain A (A a 1)
            · rw [i0 hb, bI_pos ⟨hr, hs, h6, h7, Or.inr (by rw [e', nI_clamp hp.lt]; exact hb)⟩]
            · rw [i0n hb, bI_neg]
              intro z
              rcases z.2.2.2.2 with y | y
              · rw [e'] at y; exact nI_ne_neg hp.lt y
              · rw [e', nI_clamp hp.lt] at y; exact hb y
    · rw [i0n hs, bI_neg (fun z => hs z.2.1)]
  unfold fX7_mayFocus
  rw [bind_of (mo3 hL hP ha)]
  by_cases h2 : A a 0 = 2
  · rw [if_pos h2]; exact main (Or.inl h2)
  rw [if_neg h2]
  by_cases h3 : A a 0 = 3
  · rw [if_pos h3]; exact main (Or.inr (Or.inl h3))
  rw [if_neg h3]
  by_cases h5 : A a 0 = 5
  · rw [if_pos h5]; exact main (Or.inr (Or.inr h5))
  · rw [if_neg h5, bI_neg]
    intro z
    rcases z.1 with y | y | y
    · exact h2 y
    · exact h3 y
    · exact h5 y
/-- a ring's fields: its scene, its walk, its order -/
def RNG (Sh : Sp) (R : Nat → Nat → Option Nat) (ρ σ : Nat) : Prop := Sh ρ = some (.inl 2) ∧ R ρ 0 = some σ ∧ R ρ 1 = some (ρ + 1) ∧ R ρ 2 = some (ρ + 2) ∧ Sh (ρ + 1) = some (.inr (0, 24)) ∧ Sh (ρ + 2) = some (.inr (0, 24)) ∧ Sh σ = some (.inl 3) ∧ R σ 0 = some (σ + 1)
theorem c_admitsIn {ρ σ : Nat} (hR : RNG Sh M.2.1 ρ σ) (h : CT Sh M (σ + 1) A K W) (hW : WF A K) (hn : 24 < n) {v : Int32} (hv : orN A v) : fX2_admitsIn n Sh M ρ v (trapV A) = some (bI (∃ a, v = nI a ∧ live A a ∧ admP A a)) := by
  unfold fX2_admitsIn
  rw [tF_of hR.2.1, gF_of hR.2.2.2.2.2.2.1 hR.2.2.2.2.2.2.2, chk_pos h.1.1, bind_of (c_roleOf h _)]
  rcases hv with e | ⟨a, ha, e⟩
  · subst e
    rw [rd_neg, if_neg (by decide), if_neg (by decide), if_neg (by decide), bI_neg]
    rintro ⟨a, e, ha, -⟩
    exact nI_ne_neg ha.lt e.symm
  · subst e
    rw [rd_nI ha.1]
    have iff : (∃ b, nI a = nI b ∧ live A b ∧ admP A b) ↔ admP A a := ⟨fun ⟨b, e, hb, z⟩ => by have := nI_inj ha.lt hb.lt e; subst this; exact z, fun z => ⟨a, rfl, ha, z⟩⟩
    rw [bI_congr iff]
    have main : focP (A a 0) → fX2_admitsIn_35 n Sh M ρ (nI a) (trapV A) (σ + 1) = some (bI (admP A a)) := by
      intro hr
      unfold fX2_admitsIn_35 fX2_admitsIn_79
      rw [chk_pos h.1.1, bind_of (c_set1 h _), rd_nI ha.1]
      by_cases h6 : A a 6 = 1
      · rw [if_pos h6, bI_neg (fun z => z.2.2.1 h6)]
      · rw [if_neg h6, chk_pos h.1.1, bind_of (c_set2 h _), rd_nI ha.1]
        by_cases h7 : A a 7 = -1
        · rw [if_pos h7, bI_neg (fun z => z.2.2.2.1 h7)]
        · rw [if_neg h7, chk_pos h.1.1, bind_of (c_isShown h hW hn (Or.inr ⟨a, ha, rfl⟩))]
          by_cases hs : shownP A (nI a)
          · rw [i0 ⟨⟨a, ha, rfl⟩, hs⟩]
            rcases tpF_or A 24 with e | ⟨p, hp, e⟩
            · have e' : trapV A = -1 := e
              rw [if_pos e', bI_pos ⟨hr, hs, h6, h7, Or.inl e'⟩]
            · have e' : trapV A = nI p := e
              rw [e', if_neg (nI_ne_neg hp.lt), chk_pos h.1.1, bind_of (c_liesBelow h hW hn (Or.inr ⟨a, ha, rfl⟩) hp.lt), rd_nI ha.1]
              by_cases hb : p ∈ chain A (A a 1)
              · rw [i0 hb, bI_pos ⟨hr, hs, h6, h7, Or.inr (by rw [e', nI_clamp hp.lt]; exact hb)⟩]
              · rw [i0n hb, bI_neg]
                intro z
                rcases z.2.2.2.2 with y | y
                · rw [e'] at y; exact nI_ne_neg hp.lt y
                · rw [e', nI_clamp hp.lt] at y; exact hb y
          · rw [i0n (fun z => hs z.2), bI_neg (fun z => hs z.2.1)]
    by_cases h2 : A a 0 = 2
    · rw [if_pos h2]; exact main (Or.inl h2)
    rw [if_neg h2]
    by_cases h3 : A a 0 = 3
    · rw [if_pos h3]; exact main (Or.inr (Or.inl h3))
    rw [if_neg h3]
    by_cases h5 : A a 0 = 5
    · rw [if_pos h5]; exact main (Or.inr (Or.inr h5))
    · rw [if_neg h5, bI_neg]
      intro z
      rcases z.1 with y | y | y
      · exact h2 y
      · exact h3 y
      · exact h5 y
theorem c_admits {ρ σ : Nat} (hR : RNG Sh M.2.1 ρ σ) (h : CT Sh M (σ + 1) A K W) (hW : WF A K) (hN : WN A) (hn : 24 < n) {v : Int32} (hv : orN A v) : fX2_admits n Sh M ρ v = some (bI (∃ a, v = nI a ∧ live A a ∧ admP A a)) := by
  unfold fX2_admits
  rw [tF_of hR.2.1, gF_of hR.2.2.2.2.2.2.1 hR.2.2.2.2.2.2.2, chk_pos h.1.1, bind_of (c_topDialog h hW hN hn), bind_of (c_admitsIn hR h hW hn hv), chk_pos (bI_bit _)]
/-- the node that has the focus -/
noncomputable def focV (A : At) (v : Int32) : Int32 := cif (∃ a, v = nI a ∧ live A a ∧ admP A a) v (-1)
theorem focV_or {v : Int32} : orN A (focV A v) := by
  unfold focV
  by_cases h : ∃ a, v = nI a ∧ live A a ∧ admP A a
  · rw [cif_pos h]
    obtain ⟨a, e, ha, -⟩ := h
    exact Or.inr ⟨a, ha, e⟩
  · rw [cif_neg h]; exact Or.inl rfl
theorem c_focusNow {ρ σ : Nat} (hR : RNG Sh M.2.1 ρ σ) (h : CT Sh M (σ + 1) A K W) (hW : WF A K) (hN : WN A) (hn : 24 < n) (hv : orN A (M.1 σ 3)) : fX2_focusNow n Sh M ρ = some (focV A (M.1 σ 3)) := by
  unfold fX2_focusNow focV
  rw [tF_of hR.2.1, gI_of hR.2.2.2.2.2.2.1, bind_of (c_admits hR h hW hN hn hv), tF_of hR.2.1, gI_of hR.2.2.2.2.2.2.1]
  by_cases hx : ∃ a, M.1 σ 3 = nI a ∧ live A a ∧ admP A a
  · rw [i0 hx, cif_pos hx]
  · rw [i0n hx, cif_neg hx]
theorem m_focusNow (hL : ML Sh M.2.1 μ) (hP : MP (M.1 (μ + 1)) A K W) (hW : WF A K) (hN : WN A) (hn : 24 < n) (hv : orN A (M.1 (μ + 1) 3402)) : fX7_focusNow n Sh M μ = some (focV A (M.1 (μ + 1) 3402)) := by
  have e1 : ∀ {ρ : Type} {X : Int32 → Option ρ}, (tF M μ 0 fun b => aI Sh M b 0 3402 X) = X (M.1 (μ + 1) 3402) := fun {ρ X} => m_at hL (i := 3402) (by decide)
  unfold fX7_focusNow focV
  rw [e1, e1]
  generalize M.1 (μ + 1) 3402 = v at *
  rcases hv with e | ⟨a, ha, e⟩
  · subst e
    rw [if_pos rfl, cif_neg]
    rintro ⟨a, e, ha, -⟩
    exact nI_ne_neg ha.lt e.symm
  · subst e
    have iff : (∃ b, nI a = nI b ∧ live A b ∧ admP A b) ↔ admP A a := ⟨fun ⟨b, e, hb, z⟩ => by have := nI_inj ha.lt hb.lt e; subst this; exact z, fun z => ⟨a, rfl, ha, z⟩⟩
    rw [if_neg (nI_ne_neg ha.lt), bind_of (m_mayFocus hL hP hW hN hn ha), e1]
    by_cases hx : admP A a
    · rw [i0 hx, cif_pos (iff.mpr hx)]
    · rw [i0n hx, cif_neg (fun z => hx (iff.mp z))]
end TRAP
