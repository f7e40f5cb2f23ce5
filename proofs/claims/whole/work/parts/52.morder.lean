/-! ===== LEVEL 2: the reference's order ===== -/
/-- the order alone has changed -/
def OS (μ : Nat) (M M' : Mm) : Prop := M'.2 = M.2 ∧ (∀ a, a ≠ μ → a ≠ μ + 6 → M'.1 a = M.1 a) ∧ ∀ k, k ≠ 10 → M'.1 μ k = M.1 μ k
theorem OS.rf {μ : Nat} {M : Mm} : OS μ M M := ⟨rfl, fun _ _ _ => rfl, fun _ _ => rfl⟩
theorem OS.tr {μ : Nat} {M M1 M2 : Mm} (h : OS μ M M1) (h' : OS μ M1 M2) : OS μ M M2 := ⟨h'.1.trans h.1, fun a x y => (h'.2.1 a x y).trans (h.2.1 a x y), fun k x => (h'.2.2 k x).trans (h.2.2 k x)⟩
theorem OS.w {μ : Nat} {M : Mm} {k : Nat} {v : Int32} : OS μ M (uI M (μ + 6) k v) := ⟨rfl, fun a _ h => uI_off h, fun k _ => by rw [uI_off (by omega)]⟩
theorem OS.l {μ : Nat} {M : Mm} {v : Int32} : OS μ M (uI M μ 10 v) := ⟨rfl, fun a h _ => uI_off h, fun k h => uI_row h⟩
theorem OS.ml {Sh : Sp} {μ : Nat} {M M' : Mm} (h : OS μ M M') (hL : ML Sh M.2.1 μ) : ML Sh M'.2.1 μ := by rw [h.1]; exact hL
theorem OS.mp {μ : Nat} {M M' : Mm} {A : At} {K : Kt} {W : Wt} (h : OS μ M M') (hP : MP (M.1 (μ + 1)) A K W) : MP (M'.1 (μ + 1)) A K W := by rw [h.2.1 _ (by omega) (by omega)]; exact hP
/-- the reference's order -/
def MO (M : Mm) (μ : Nat) (L : List Nat) : Prop := M.1 μ 10 = nI L.length ∧ LW M (μ + 6) L
theorem MO.put {M : Mm} {μ : Nat} {X : List Nat} (h : MO M μ X) (x : Nat) : MO (uI (uI M (μ + 6) X.length (nI x)) μ 10 (nI X.length + 1)) μ (X ++ [x]) := ⟨by rw [uI_same, nI_add1, List.length_append]; rfl, (h.2.put x).off (by omega)⟩
section MORDER
variable {Sh : Sp} {M : Mm} {t μ n : Nat} {A : At} {K : Kt} {W : Wt}
/-- the nodes in the document's order, each with what is left behind it -/
theorem pre_step (hW : WF A K) : ∀ i (h : i < (pre K 0).length), inT A 0 (pre K 0)[i] ∧ ((pre K 0)[i] :: pend A K 0 (pre K 0)[i]).flatMap (pre K) = (pre K 0).drop i := by
  intro i
  induction i with
  | zero =>
    intro h
    have e : (pre K 0)[0] = 0 := by
      have := pre_eq hW hW.root
      simp only [this, List.getElem_cons_zero]
    rw [e, pend_top, List.drop_zero, List.flatMap_cons, List.flatMap_nil, List.append_nil]
    exact ⟨⟨hW.root, chain_root hW hW.root⟩, rfl⟩
  | succ i ih =>
    intro h
    obtain ⟨hT, e⟩ := ih (by omega)
    have hi : i < (pre K 0).length := by omega
    generalize hx : (pre K 0)[i] = x at hT e
    rw [List.flatMap_cons, pre_eq hW hT.1, List.drop_eq_getElem_cons hi, hx] at e
    have e1 : (K x ++ pend A K 0 x).flatMap (pre K) = (pre K 0).drop (i + 1) := by
      rw [List.flatMap_append]
      exact (List.cons.inj e).2
    rw [List.drop_eq_getElem_cons h] at e1
    cases hl : K x ++ pend A K 0 x with
    | nil => rw [hl] at e1; cases e1
    | cons y ys =>
      rw [hl, List.flatMap_cons] at e1
      have hy : inT A 0 y ∧ pend A K 0 y = ys := by
        cases hk : K x with
        | nil => rw [hk] at hl; exact pend_next hW x hT y ys hl
        | cons k ks =>
          rw [hk] at hl
          obtain ⟨e3, e4⟩ := List.cons.inj hl
          subst e3
          obtain ⟨p1, p2⟩ := pend_kid hW hT hk
          exact ⟨p1, by rw [p2]; exact e4⟩
      have e5 := e1
      rw [pre_eq hW hy.1.1] at e5
      have e6 : y = (pre K 0)[i + 1] := (List.cons.inj e5).1
      rw [← e6, hy.2, List.flatMap_cons, e1, ← e6]
      refine ⟨hy.1, ?_⟩
      rw [List.drop_eq_getElem_cons h, ← e6]
theorem m_follow_pre (hL : ML Sh M.2.1 μ) (hP : MP (M.1 (μ + 1)) A K W) (hW : WF A K) (hn : 24 < n) {i : Nat} (hi : i < (pre K 0).length) : fX7_following n Sh M μ (nI (pre K 0)[i]) 0 = some (oi (pre K 0)[i + 1]?) := by
  obtain ⟨hT, e⟩ := pre_step hW i hi
  rw [show fX7_following n Sh M μ (nI (pre K 0)[i]) 0 = some (oi (K (pre K 0)[i] ++ pend A K 0 (pre K 0)[i]).head?) from m_following hL hP hW hn hT]
  congr 2
  generalize hx : (pre K 0)[i] = x at hT e
  rw [List.flatMap_cons, pre_eq hW hT.1, List.drop_eq_getElem_cons hi, hx] at e
  have e1 : (K x ++ pend A K 0 x).flatMap (pre K) = (pre K 0).drop (i + 1) := by
    rw [List.flatMap_append]
    exact (List.cons.inj e).2
  have e2 : (pre K 0)[i + 1]? = ((pre K 0).drop (i + 1)).head? := by rw [List.head?_drop]
  rw [e2, ← e1]
  cases hl : K x ++ pend A K 0 x with
  | nil => rfl
  | cons y ys =>
    have hyl : live A y := by
      have hy : y ∈ K x ++ pend A K 0 x := by rw [hl]; exact List.mem_cons_self
      rcases List.mem_append.mp hy with h | h
      · exact (hW.2.2.1 x hT.1 y h).1
      · exact pend_live hW hT y h
    rw [List.flatMap_cons, pre_eq hW hyl]
    rfl
theorem pre_0 (hW : WF A K) : ∃ xs, pre K 0 = 0 :: xs := ⟨_, pre_eq hW hW.root⟩
theorem mod10 {j : Nat} (hj : j < 10) : tabs[j]? = some (nI (j + 1) - nI (j + 1) / 10 * 10) := by
  have : ∀ j ∈ List.range 10, tabs[j]? = some (nI (j + 1) - nI (j + 1) / 10 * 10) := by decide +kernel
  exact this j (List.mem_range.mpr hj)
theorem m_lay15 (hL : ML Sh M.2.1 μ) (hP : MP (M.1 (μ + 1)) A K W) (hW : WF A K) (hN : WN A) (hn : 24 < n) {tab v : Int32} (hv : v - v / 10 * 10 = tab) {L : List Nat} (hO : MO M μ L) (hle : (L ++ ordT A K tab).length ≤ 24) : ∃ M', fX7_layOrder_15 n Sh μ M v 0 = some (.inl (v + 1, M')) ∧ MO M' μ (L ++ ordT A K tab) ∧ OS μ M M' := by
  have hpl := pre_len hW hW.root
  unfold fX7_layOrder_15
  obtain ⟨r, e, M', er, q1, q2⟩ := iter_inv (f := fun s : Int32 × Mm => fX7_layOrder_15b n Sh μ s.2 v s.1) (pre K 0).length (fun j s => s.1 = oi (pre K 0)[j]? ∧ MO s.2 μ (L ++ ((pre K 0).take j).filter (fun j => cB (A j 7 = tab ∧ admP A j))) ∧ OS μ M s.2) (fun r => ∃ M', r = .inl (v + 1, M') ∧ MO M' μ (L ++ ordT A K tab) ∧ OS μ M M') (fun j s hj hI => by
    obtain ⟨v2, M1⟩ := s
    obtain ⟨e1, hr1, hag⟩ := hI
    dsimp only at e1 hr1 hag
    subst e1
    have hL1 := hag.ml hL
    have hP1 := hag.mp hP
    unfold fX7_layOrder_15b fX7_layOrder_72 fX7_layOrder_62
    by_cases hjl : j < (pre K 0).length
    · have hxl := pre_live hW 0 hW.root _ (List.getElem_mem hjl)
      have htk : (pre K 0).take (j + 1) = (pre K 0).take j ++ [(pre K 0)[j]] := by rw [List.take_add_one, List.getElem?_eq_getElem hjl]; rfl
      have hsp := filter_split (fun j => cB (A j 7 = tab ∧ admP A j)) (pre K 0) j hjl
      have hx : oi (pre K 0)[j]? = nI (pre K 0)[j] := by rw [List.getElem?_eq_getElem hjl]; rfl
      dsimp only
      rw [hx, if_neg (nI_ne_neg hxl.lt), bind_of (mo7 hL1 hP1 hxl), chk_pos (by decide), hv]
      have no : ¬ (A (pre K 0)[j] 7 = tab ∧ admP A (pre K 0)[j]) → L ++ ((pre K 0).take (j + 1)).filter (fun j => cB (A j 7 = tab ∧ admP A j)) = L ++ ((pre K 0).take j).filter (fun j => cB (A j 7 = tab ∧ admP A j)) := fun hx => by
        rw [htk, List.filter_append, List.filter_cons, if_neg (fun z => hx (cB_iff.mp z))]
        simp
      by_cases h7 : A (pre K 0)[j] 7 = tab
      · rw [if_pos h7, bind_of (m_mayFocus hL1 hP1 hW hN hn hxl)]
        by_cases ha : admP A (pre K 0)[j]
        · have hlen : (L ++ ((pre K 0).take j).filter (fun j => cB (A j 7 = tab ∧ admP A j))).length < 24 := by
            unfold ordT at hle
            rw [hsp, if_pos (cB_iff.mpr ⟨h7, ha⟩)] at hle
            simp only [List.length_append, List.length_cons, List.length_nil] at hle ⊢
            omega
          rw [i0 ha, tF_of hL1.2.1.2.2.2.2.2]
          simp only [tI_of]
          rw [hr1.1, sI_nI hL1.2.2.2.2.2.2.2 hlen (by decide)]
          simp only [qI_of]
          rw [uI_off (by omega), hr1.1]
          have w1 : OS μ M1 (uI (uI M1 (μ + 6) (L ++ ((pre K 0).take j).filter (fun j => cB (A j 7 = tab ∧ admP A j))).length (nI (pre K 0)[j])) μ 10 (nI (L ++ ((pre K 0).take j).filter (fun j => cB (A j 7 = tab ∧ admP A j))).length + 1)) := OS.w.tr OS.l
          rw [bind_of (m_follow_pre (w1.ml hL1) (w1.mp hP1) hW hn hjl)]
          refine Or.inl ⟨hjl, _, rfl, rfl, ?_, hag.tr w1⟩
          have e2 : L ++ ((pre K 0).take (j + 1)).filter (fun j => cB (A j 7 = tab ∧ admP A j)) = (L ++ ((pre K 0).take j).filter (fun j => cB (A j 7 = tab ∧ admP A j))) ++ [(pre K 0)[j]] := by
            rw [htk, List.filter_append, List.filter_cons, if_pos (cB_iff.mpr ⟨h7, ha⟩)]
            simp
          rw [e2]
          exact hr1.put _
        · rw [i0n ha, bind_of (m_follow_pre hL1 hP1 hW hn hjl)]
          exact Or.inl ⟨hjl, _, rfl, rfl, by rw [no (fun z => ha z.2)]; exact hr1, hag⟩
      · rw [if_neg h7, bind_of (m_follow_pre hL1 hP1 hW hn hjl)]
        exact Or.inl ⟨hjl, _, rfl, rfl, by rw [no (fun z => h7 z.1)]; exact hr1, hag⟩
    · have hx : oi (pre K 0)[j]? = -1 := by rw [List.getElem?_eq_none_iff.mpr (by omega)]; rfl
      dsimp only
      rw [hx, if_pos rfl]
      rw [List.take_of_length_le (by omega)] at hr1
      exact Or.inr ⟨_, rfl, M1, rfl, hr1, hag⟩) (show (pre K 0).length < n by omega) (s := (0, M)) ⟨by
        obtain ⟨xs, e⟩ := pre_0 hW
        rw [e]; rfl, by rw [List.take_zero, List.filter_nil, List.append_nil]; exact hO, OS.rf⟩
  refine ⟨M', ?_, q1, q2⟩
  rw [e, er]
theorem m_layOrder (hL : ML Sh M.2.1 μ) (hP : MP (M.1 (μ + 1)) A K W) (hW : WF A K) (hN : WN A) (hn : 24 < n) : ∃ M', fX7_layOrder n Sh M μ = some M' ∧ MO M' μ (ordL A K) ∧ OS μ M M' := by
  unfold fX7_layOrder fX7_layOrder_7
  simp only [qI_of]
  obtain ⟨M', e, q⟩ := iter_inv (f := fun s : Int32 × Mm => fX7_layOrder_7b n Sh μ s.2 s.1) 10 (fun j s => s.1 = nI (j + 1) ∧ MO s.2 μ ((tabs.take j).flatMap (ordT A K)) ∧ OS μ M s.2) (fun M' => MO M' μ (ordL A K) ∧ OS μ M M') (fun j s hj hI => by
    obtain ⟨v, M3⟩ := s
    obtain ⟨e3, r3, g3⟩ := hI
    dsimp only at e3 r3 g3
    subst e3
    unfold fX7_layOrder_7b
    dsimp only
    by_cases h10 : j < 10
    · have hm := mod10 h10
      obtain ⟨M4, e4, r4, g4⟩ := m_lay15 (g3.ml hL) (g3.mp hP) hW hN hn (v := nI (j + 1)) rfl r3 (by rw [← tabs_pre A K hm]; exact tabs_le hW _)
      rw [if_pos (show nI (j + 1) < 11 from (nI_ltI (b := 11) (by omega) (by decide)).mpr (by omega)), e4]
      rw [← tabs_pre A K hm] at r4
      exact Or.inl ⟨h10, _, rfl, nI_add1 _, r4, g3.tr g4⟩
    · have : j = 10 := by omega
      subst this
      rw [if_neg (by decide)]
      exact Or.inr ⟨M3, rfl, r3, g3⟩) (show 10 < n by omega) (s := (1, uI M μ 10 0)) ⟨rfl, ⟨uI_same, LW.nil⟩, OS.l⟩
  exact ⟨M', e, q⟩
end MORDER
