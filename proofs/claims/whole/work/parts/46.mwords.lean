/-! ===== LEVEL 2: the reference's words ===== -/
noncomputable def cif {α : Type} (P : Prop) (a b : α) : α := @ite _ P (Classical.propDecidable P) a b
theorem cif_pos {α : Type} {P : Prop} {a b : α} (h : P) : cif P a b = a := if_pos h
theorem cif_neg {α : Type} {P : Prop} {a b : α} (h : ¬ P) : cif P a b = b := if_neg h
noncomputable def cB (P : Prop) : Bool := cif P true false
theorem cB_pos {P : Prop} (h : P) : cB P = true := cif_pos h
theorem cB_neg {P : Prop} (h : ¬ P) : cB P = false := cif_neg h
def jns (l : List Int32) (ps : List (List Int32)) : List Int32 := ps.foldl jn l
noncomputable def ownW (A : At) (W : Wt) (k : Nat) : List (List Int32) := cif (outP A k) [] (cif (W k 1 ≠ []) [W k 1] (cif (txtP A k) [W k 0] []))
noncomputable def dsW (A : At) (W : Wt) (k : Nat) : Bool := cB (¬ outP A k ∧ W k 1 = [] ∧ ¬ txtP A k ∧ A k 0 ≠ 4)
noncomputable def contW (A : At) (K : Kt) (W : Wt) (k : Nat) : List (List Int32) := cif (txtP A k) [W k 0] (cif (A k 0 = 4) [] ((K k).flatMap (trav K (ownW A W) (dsW A W))))
noncomputable def partW (A : At) (K : Kt) (W : Wt) (k : Nat) : List (List Int32) := cif (W k 1 ≠ []) [W k 1] (contW A K W k)
def namedP (r : Int32) : Prop := r = 1 ∨ r = 2 ∨ r = 3 ∨ r = 9 ∨ r = 10
noncomputable def nameW (A : At) (K : Kt) (W : Wt) (k : Nat) : List (List Int32) := cif (A k 2 ≠ -1) (contW A K W (A k 2).toNatClampNeg) (cif (W k 1 ≠ []) [W k 1] (cif (namedP (A k 0)) (contW A K W k) []))
def roleWd (r : Int32) : List Int32 := if r = 2 then [98, 117, 116, 116, 111, 110] else if r = 3 then [108, 105, 110, 107] else if r = 4 then [105, 109, 97, 103, 101] else if r = 5 then [101, 100, 105, 116] else if r = 6 then [100, 105, 97, 108, 111, 103] else if r = 7 then [116, 97, 98, 108, 101] else if r = 10 then [104, 101, 97, 100, 101, 114] else []
def disWd : List Int32 := [100, 105, 115, 97, 98, 108, 101, 100]
noncomputable def phraseW (A : At) (K : Kt) (W : Wt) (k : Nat) : List (List Int32) := nameW A K W k ++ [roleWd (A k 0)] ++ cif (A k 0 = 5) [W k 0] [] ++ cif (A k 6 = 1) [disWd] []
theorem jn_nil {l : List Int32} : jn l [] = l := by
  unfold jn
  by_cases h : l = []
  · rw [if_pos h, h]
  · rw [if_neg h, if_pos rfl]
theorem jn_len (l l1 : List Int32) : l.length ≤ (jn l l1).length := by
  unfold jn
  by_cases h : l = []
  · rw [if_pos h, h]; exact Nat.zero_le _
  · rw [if_neg h]
    by_cases h1 : l1 = []
    · rw [if_pos h1]; exact Nat.le_refl _
    · rw [if_neg h1, List.length_append]; omega
theorem jn_len2 (l l1 : List Int32) : l1.length ≤ (jn l l1).length := by
  unfold jn
  by_cases h : l = []
  · rw [if_pos h]; exact Nat.le_refl _
  · rw [if_neg h]
    by_cases h1 : l1 = []
    · rw [if_pos h1, h1]; exact Nat.zero_le _
    · rw [if_neg h1, List.length_append, List.length_cons]; omega
theorem jns_len (ps : List (List Int32)) : ∀ l, l.length ≤ (jns l ps).length := by
  induction ps with
  | nil => intro l; exact Nat.le_refl _
  | cons p ps ih => intro l; exact Nat.le_trans (jn_len l p) (ih (jn l p))
theorem jns_app (l : List Int32) (ps qs : List (List Int32)) : jns l (ps ++ qs) = jns (jns l ps) qs := List.foldl_append
theorem jns_one (l p : List Int32) : jns l [p] = jn l p := rfl
theorem jns_nil (l : List Int32) : jns l [] = l := rfl
def MW (M : Mm) (μ : Nat) (l : List Int32) : Prop := M.1 μ 7 = nI l.length ∧ l.length ≤ 260 ∧ ∀ k, k < l.length → M.1 (μ + 4) k = l.getD k 0
/-- the words alone have changed -/
def WS (μ : Nat) (M M' : Mm) : Prop := M'.2 = M.2 ∧ (∀ a, a ≠ μ → a ≠ μ + 4 → M'.1 a = M.1 a) ∧ ∀ k, k ≠ 7 → M'.1 μ k = M.1 μ k
theorem WS.rf {μ : Nat} {M : Mm} : WS μ M M := ⟨rfl, fun _ _ _ => rfl, fun _ _ => rfl⟩
theorem WS.tr {μ : Nat} {M M1 M2 : Mm} (h : WS μ M M1) (h' : WS μ M1 M2) : WS μ M M2 := ⟨h'.1.trans h.1, fun a x y => (h'.2.1 a x y).trans (h.2.1 a x y), fun k x => (h'.2.2 k x).trans (h.2.2 k x)⟩
theorem WS.w {μ : Nat} {M : Mm} {k : Nat} {v : Int32} : WS μ M (uI M (μ + 4) k v) := ⟨rfl, fun a _ h => uI_off h, fun k _ => by rw [uI_off (by omega)]⟩
theorem WS.l {μ : Nat} {M : Mm} {v : Int32} : WS μ M (uI M μ 7 v) := ⟨rfl, fun a h _ => uI_off h, fun k h => uI_row h⟩
theorem WS.ml {Sh : Sp} {μ : Nat} {M M' : Mm} (h : WS μ M M') (hL : ML Sh M.2.1 μ) : ML Sh M'.2.1 μ := by rw [h.1]; exact hL
theorem WS.mp {μ : Nat} {M M' : Mm} {A : At} {K : Kt} {W : Wt} (h : WS μ M M') (hP : MP (M.1 (μ + 1)) A K W) : MP (M'.1 (μ + 1)) A K W := by rw [h.2.1 _ (by omega) (by omega)]; exact hP
section MWORDS
variable {Sh : Sp} {M : Mm} {μ n : Nat} {A : At} {K : Kt} {W : Wt}
/-- a character is laid -/
theorem mw_put {l : List Int32} (hM : MW M μ l) (hl : l.length < 260) (c : Int32) : MW (uI (uI M (μ + 4) l.length c) μ 7 (nI (l.length + 1))) μ (l ++ [c]) := by
  refine ⟨by rw [uI_same, List.length_append]; rfl, by rw [List.length_append]; exact hl, fun k hk => ?_⟩
  rw [List.length_append, List.length_singleton] at hk
  rw [uI_off (by omega)]
  by_cases hkl : k = l.length
  · subst hkl; rw [uI_same]; simp
  · rw [uI_row hkl, hM.2.2 k (by omega)]
    simp [List.getD_eq_getElem?_getD, List.getElem?_append_left (show k < l.length by omega)]
theorem m_lays34 {fr : Nat} {l1 : List Int32} (hfr : fr + l1.length ≤ 3405) : ∀ (m j k : Nat) (M : Mm) (l : List Int32), j + m = l1.length → m < k → ML Sh M.2.1 μ → MW M μ l → (∀ q, q < l1.length → M.1 (μ + 1) (fr + q) = l1.getD q 0) → l.length + m ≤ 260 → ∃ M', iter k (fun s => fX7_lays_34b n Sh μ (nI fr) (nI l1.length) s.2 s.1) (nI j, M) = some M' ∧ MW M' μ (l ++ l1.drop j) ∧ WS μ M M' := by
  intro m
  induction m with
  | zero =>
    intro j k M l hj hk hL hM h1 hle
    refine ⟨M, iter_end' hk ?_, by rw [List.drop_eq_nil_of_le (by omega), List.append_nil]; exact hM, WS.rf⟩
    unfold fX7_lays_34b
    simp only [lt_nI (show j < 2 ^ 31 by omega) (show l1.length < 2 ^ 31 by omega)]
    rw [if_neg (by omega)]
  | succ m ih =>
    intro j k M l hj hk hL hM h1 hle
    have hjl : j < l1.length := by omega
    have w1 : WS μ M (uI (uI M (μ + 4) l.length (l1.getD j 0)) μ 7 (nI (l.length + 1))) := WS.w.tr WS.l
    obtain ⟨M2, e2, r2, a2⟩ := ih (j + 1) (k - 1) _ (l ++ [l1.getD j 0]) (by omega) (by omega) (w1.ml hL) (mw_put hM (by omega) (l1.getD j 0)) (fun q hq => by rw [w1.2.1 _ (by omega) (by omega)]; exact h1 q hq) (by rw [List.length_append, List.length_singleton]; omega)
    refine ⟨M2, ?_, ?_, w1.tr a2⟩
    · rw [iter_go' (s' := (nI (j + 1), uI (uI M (μ + 4) l.length (l1.getD j 0)) μ 7 (nI (l.length + 1)))) (by omega)]
      · exact e2
      · unfold fX7_lays_34b
        simp only [lt_nI (show j < 2 ^ 31 by omega) (show l1.length < 2 ^ 31 by omega)]
        rw [if_pos hjl, tF_of hL.2.1.2.2.2.1]
        simp only [tI_of, hM.1]
        rw [nI_addm, m_at hL (by omega), h1 j hjl, sI_nI hL.2.2.2.2.2.1 (by omega) (by decide)]
        simp only [qI_of]
        rw [uI_off (by omega), hM.1, nI_add1, nI_add1]
    · rw [List.append_assoc] at r2
      have : l1.drop j = l1.getD j 0 :: l1.drop (j + 1) := by
        rw [List.drop_eq_getElem_cons hjl, List.getD_eq_getElem?_getD, List.getElem?_eq_getElem hjl]; rfl
      rw [this]
      exact r2
theorem m_lays {fr : Nat} {l l1 : List Int32} (hL : ML Sh M.2.1 μ) (hM : MW M μ l) (hfr : fr + l1.length ≤ 3405) (h1 : ∀ q, q < l1.length → M.1 (μ + 1) (fr + q) = l1.getD q 0) (hn : l1.length < n) (hle : (jn l l1).length ≤ 260) : ∃ M', fX7_lays n Sh M μ (nI fr) (nI l1.length) = some M' ∧ MW M' μ (jn l l1) ∧ WS μ M M' := by
  have hl1 : l1.length < 2 ^ 31 := by omega
  have hl : l.length < 2 ^ 31 := by have := hM.2.1; omega
  unfold fX7_lays fX7_lays_32 fX7_lays_34
  simp only [tI_of, hM.1, nI_le0 hl1, nI_le0 hl]
  unfold jn at hle ⊢
  by_cases e1 : l1 = []
  · subst e1
    rw [if_pos (show ([] : List Int32).length = 0 from rfl)]
    obtain ⟨M', e, r, a⟩ := m_lays34 (Sh := Sh) (n := n) (μ := μ) hfr 0 0 n M l rfl hn hL hM h1 (by have := hM.2.1; omega)
    refine ⟨M', e, ?_, a⟩
    have : (if l = [] then ([] : List Int32) else if ([] : List Int32) = [] then l else l ++ [32]) = l := by
      by_cases h : l = []
      · rw [if_pos h, h]
      · rw [if_neg h, if_pos rfl]
    rw [this]
    simpa using r
  · have e0 : ¬ l1.length = 0 := fun z => e1 (List.length_eq_zero_iff.mp z)
    rw [if_neg e0]
    by_cases e2 : l = []
    · subst e2
      rw [if_pos rfl] at hle ⊢
      rw [if_pos (show ([] : List Int32).length = 0 from rfl)]
      obtain ⟨M', e, r, a⟩ := m_lays34 (Sh := Sh) (n := n) (μ := μ) hfr l1.length 0 n M [] (by omega) hn hL hM h1 (by simpa using hle)
      exact ⟨M', e, by simpa using r, a⟩
    · have e3 : ¬ l.length = 0 := fun z => e2 (List.length_eq_zero_iff.mp z)
      rw [if_neg e2, if_neg e1] at hle ⊢
      rw [if_neg e3]
      simp only [List.length_append, List.length_cons] at hle
      have w1 : WS μ M (uI (uI M (μ + 4) l.length 32) μ 7 (nI (l.length + 1))) := WS.w.tr WS.l
      obtain ⟨M', e, r, a⟩ := m_lays34 (Sh := Sh) (n := n) (μ := μ) hfr l1.length 0 n _ (l ++ [32]) (by omega) hn (w1.ml hL) (mw_put hM (by omega) 32) (fun q hq => by rw [w1.2.1 _ (by omega) (by omega)]; exact h1 q hq) (by simp only [List.length_append, List.length_singleton]; omega)
      rw [tF_of hL.2.1.2.2.2.1, sI_nI hL.2.2.2.2.2.1 (by omega) (by decide)]
      simp only [qI_of]
      rw [uI_off (by omega), hM.1, nI_add1]
      exact ⟨M', e, by simpa using r, w1.tr a⟩
theorem m_laysText {l : List Int32} (hL : ML Sh M.2.1 μ) (hP : MP (M.1 (μ + 1)) A K W) (hM : MW M μ l) {a : Nat} (ha : live A a) (h8 : (W a 0).length ≤ 8) (hn : 24 < n) (hle : (jn l (W a 0)).length ≤ 260) : ∃ M', fX7_laysText n Sh M μ (nI a) = some M' ∧ MW M' μ (jn l (W a 0)) ∧ WS μ M M' := by
  unfold fX7_laysText
  have := ha.1
  obtain ⟨M', e, r, w⟩ := m_lays (n := n) (fr := 30 * a + 14) hL hM (by omega) (fun q hq => by rw [Nat.add_assoc]; exact ((hP a ha.1).2 ha).2.2.2.2.2.2.2.2.2.1 q hq) (by omega) hle
  rw [bind_of (mo12 hL hP ha), show (30 * nI a) + 14 = nI (30 * a + 14) from mul30 ha.1 (k := 14) (by decide), bind_of e]
  exact ⟨M', rfl, r, w⟩
theorem m_laysLabel {l : List Int32} (hL : ML Sh M.2.1 μ) (hP : MP (M.1 (μ + 1)) A K W) (hM : MW M μ l) {a : Nat} (ha : live A a) (h8 : (W a 1).length ≤ 8) (hn : 24 < n) (hle : (jn l (W a 1)).length ≤ 260) : ∃ M', fX7_laysLabel n Sh M μ (nI a) = some M' ∧ MW M' μ (jn l (W a 1)) ∧ WS μ M M' := by
  unfold fX7_laysLabel
  have := ha.1
  obtain ⟨M', e, r, w⟩ := m_lays (n := n) (fr := 30 * a + 22) hL hM (by omega) (fun q hq => by rw [Nat.add_assoc]; exact ((hP a ha.1).2 ha).2.2.2.2.2.2.2.2.2.2 q hq) (by omega) hle
  rw [bind_of (mo13 hL hP ha), show (30 * nI a) + 22 = nI (30 * a + 22) from mul30 ha.1 (k := 22) (by decide), bind_of e]
  exact ⟨M', rfl, r, w⟩
/-- labels and texts are short, and the labeller stands -/
def WA (A : At) (W : Wt) : Prop := ∀ j, live A j → (W j 0).length ≤ 8 ∧ (W j 1).length ≤ 8 ∧ orN A (A j 2) ∧ orN A (A j 4)
theorem len0 {l : List Int32} : (l.length = 0) = (l = []) := propext List.length_eq_zero_iff
theorem m_content (hL : ML Sh M.2.1 μ) (hP : MP (M.1 (μ + 1)) A K W) (hW : WF A K) (hA : WA A W) (hn : 24 < n) {l : List Int32} (hM : MW M μ l) {a : Nat} (ha : live A a) (hle : (jns l (contW A K W a)).length ≤ 260) : ∃ M', fX7_laysContent n Sh M μ (nI a) = some M' ∧ MW M' μ (jns l (contW A K W a)) ∧ WS μ M M' := by
  unfold fX7_laysContent
  rw [bind_of (m_hasText hL hP ha)]
  unfold contW at hle ⊢
  by_cases ht : txtP A a
  · rw [cif_pos ht] at hle ⊢
    rw [i0 ht]
    obtain ⟨M', e, r, w⟩ := m_laysText (n := n) hL hP hM ha (hA a ha).1 hn hle
    rw [bind_of e]
    exact ⟨M', rfl, r, w⟩
  · rw [cif_neg ht] at hle ⊢
    rw [i0n ht, bind_of (mo3 hL hP ha)]
    unfold fX7_laysContent_34 fX7_laysContent_35
    by_cases h4 : A a 0 = 4
    · rw [cif_pos h4] at hle ⊢
      rw [if_pos h4]
      refine ⟨M, iter_end' (by omega) ?_, hM, WS.rf⟩
      unfold fX7_laysContent_35b
      rw [if_pos rfl]
    · rw [cif_neg h4] at hle ⊢
      rw [if_neg h4, bind_of (m_childAt hL hP hW hn ha 0), show (0 : Int32) = nI 0 from rfl, kAt_nI (by decide)]
      have haT : inT A a a := ⟨ha, by rw [chain_cons hW ha]; exact List.mem_cons_self⟩
      generalize hT : (K a).flatMap (trav K (ownW A W) (dsW A W)) = T at *
      obtain ⟨M', e, q1, q2⟩ := iter_inv (f := fun s : Int32 × Mm => fX7_laysContent_35b n Sh μ (nI a) s.2 s.1) 24 (fun j s => ∃ wl, s.1 = oi (List.head? wl) ∧ (∀ y ys, wl = y :: ys → inT A a y ∧ pend A K a y = ys) ∧ (wl.flatMap (pre K)).length + j ≤ 24 ∧ WS μ M s.2 ∧ ∃ l', MW s.2 μ l' ∧ jns l' (wl.flatMap (trav K (ownW A W) (dsW A W))) = jns l T) (fun M' => MW M' μ (jns l T) ∧ WS μ M M') (fun j s hj hI => by
        obtain ⟨v2, M1⟩ := s
        obtain ⟨wl, e1, hwl, hlen, hws, l', hM1, hl'⟩ := hI
        dsimp only at e1 hws hM1
        subst e1
        unfold fX7_laysContent_35b
        cases wl with
        | nil =>
          refine Or.inr ⟨M1, ?_, ?_, hws⟩
          · rw [if_pos (show oi (List.head? []) = -1 from rfl)]
          · rw [← hl']; exact hM1
        | cons x xs =>
          obtain ⟨hx, hxs⟩ := hwl x xs rfl
          have hL1 := hws.ml hL
          have hP1 := hws.mp hP
          have hxl := hx.1
          rw [List.flatMap_cons, trav_eq hW hxl, jns_app, jns_app] at hl'
          rw [List.flatMap_cons, pre_eq hW hxl, List.length_append, List.length_cons] at hlen
          rw [if_neg (show ¬ oi (List.head? (x :: xs)) = -1 from nI_ne_neg hxl.lt)]
          have hxe : oi (List.head? (x :: xs)) = nI x := rfl
          rw [hxe]
          obtain ⟨q8, q81, -, -⟩ := hA x hxl
          -- what is laid at x
          have lay : ∀ (b : Int32) (wl' : List Nat), (∀ y ys, wl' = y :: ys → inT A a y ∧ pend A K a y = ys) → (wl'.flatMap (pre K)).length + (j + 1) ≤ 24 → jns (jns l' (ownW A W x)) (wl'.flatMap (trav K (ownW A W) (dsW A W))) = jns l T → (∀ M2, WS μ M1 M2 → fX7_laysContent_118 n Sh μ (nI a) M2 (nI x) b = some (Sum.inl (oi wl'.head?, M2))) → ∃ s', fX7_laysContent_81 n Sh μ (nI a) M1 (nI x) b = some (Sum.inl s') ∧ ∃ wl, s'.1 = oi (List.head? wl) ∧ (∀ y ys, wl = y :: ys → inT A a y ∧ pend A K a y = ys) ∧ (wl.flatMap (pre K)).length + (j + 1) ≤ 24 ∧ WS μ M s'.2 ∧ ∃ l', MW s'.2 μ l' ∧ jns l' (wl.flatMap (trav K (ownW A W) (dsW A W))) = jns l T := by
            intro b wl' h1 h2 h3 h4
            have hbd : (jns l' (ownW A W x)).length ≤ 260 := Nat.le_trans (by rw [← h3]; exact jns_len _ _) hle
            unfold fX7_laysContent_81
            rw [bind_of (m_isOut hL1 hP1 hxl)]
            unfold ownW at h3 hbd
            by_cases ho : outP A x
            · rw [cif_pos ho] at h3
              rw [i0 ho, h4 M1 WS.rf]
              exact ⟨_, rfl, wl', rfl, h1, h2, hws, l', hM1, h3⟩
            · rw [cif_neg ho] at h3 hbd
              rw [i0n ho]
              by_cases hlb : W x 1 = []
              · rw [cif_neg (fun z => z hlb)] at h3 hbd
                obtain ⟨M2, e2, r2, w2⟩ := m_laysLabel (n := n) hL1 hP1 hM1 hxl q81 hn (by rw [hlb, jn_nil]; exact hM1.2.1)
                rw [hlb, jn_nil] at r2
                rw [bind_of e2, bind_of (mo13 (w2.ml hL1) (w2.mp hP1) hxl), hlb, if_pos (show nI ([] : List Int32).length = 0 from rfl), bind_of (m_hasText (w2.ml hL1) (w2.mp hP1) hxl)]
                by_cases htx : txtP A x
                · rw [cif_pos htx] at h3 hbd
                  obtain ⟨M3, e3, r3, w3⟩ := m_laysText (n := n) (w2.ml hL1) (w2.mp hP1) r2 hxl q8 hn hbd
                  rw [i0 htx, bind_of e3, h4 M3 (w2.tr w3)]
                  exact ⟨_, rfl, wl', rfl, h1, h2, hws.tr (w2.tr w3), _, r3, h3⟩
                · rw [cif_neg htx] at h3
                  rw [i0n htx, h4 M2 w2]
                  exact ⟨_, rfl, wl', rfl, h1, h2, hws.tr w2, l', r2, h3⟩
              · rw [cif_pos hlb] at h3 hbd
                obtain ⟨M2, e2, r2, w2⟩ := m_laysLabel (n := n) hL1 hP1 hM1 hxl q81 hn hbd
                rw [bind_of e2, bind_of (mo13 (w2.ml hL1) (w2.mp hP1) hxl), if_neg (show ¬ nI (W x 1).length = 0 from fun z => hlb (len0.mp ((nI_eq0 (show (W x 1).length < 2 ^ 31 by omega)).mp z))), h4 M2 w2]
                exact ⟨_, rfl, wl', rfl, h1, h2, hws.tr w2, _, r2, h3⟩
          -- without its children
          have no : dsW A W x = false → fX7_laysContent_81 n Sh μ (nI a) M1 (nI x) 0 = fX7_laysContent_81 n Sh μ (nI a) M1 (nI x) 0 ∧ ∃ s', fX7_laysContent_80 n Sh μ (nI a) M1 (nI x) = some (Sum.inl s') ∧ ∃ wl, s'.1 = oi (List.head? wl) ∧ (∀ y ys, wl = y :: ys → inT A a y ∧ pend A K a y = ys) ∧ (wl.flatMap (pre K)).length + (j + 1) ≤ 24 ∧ WS μ M s'.2 ∧ ∃ l', MW s'.2 μ l' ∧ jns l' (wl.flatMap (trav K (ownW A W) (dsW A W))) = jns l T := by
            intro hds
            rw [hds, if_neg (by decide)] at hl'
            refine ⟨rfl, lay 0 xs (fun y ys e => pend_next hW x hx y ys (hxs.trans e)) (by omega) hl' (fun M2 w2 => ?_)⟩
            unfold fX7_laysContent_118 fX7_laysContent_137
            rw [if_pos rfl, bind_of (m_behind ((hws.tr w2).ml hL) ((hws.tr w2).mp hP) hW hn hx), hxs]
          have yes : dsW A W x = true → ∃ s', fX7_laysContent_81 n Sh μ (nI a) M1 (nI x) 1 = some (Sum.inl s') ∧ ∃ wl, s'.1 = oi (List.head? wl) ∧ (∀ y ys, wl = y :: ys → inT A a y ∧ pend A K a y = ys) ∧ (wl.flatMap (pre K)).length + (j + 1) ≤ 24 ∧ WS μ M s'.2 ∧ ∃ l', MW s'.2 μ l' ∧ jns l' (wl.flatMap (trav K (ownW A W) (dsW A W))) = jns l T := by
            intro hds
            rw [hds, if_pos rfl] at hl'
            refine lay 1 (K x ++ xs) (fun y ys e => ?_) (by rw [List.flatMap_append, List.length_append]; omega) (by rw [List.flatMap_append, jns_app]; exact hl') (fun M2 w2 => ?_)
            · cases hk : K x with
              | nil => rw [hk] at e; exact pend_next hW x hx y ys (hxs.trans e)
              | cons k ks =>
                rw [hk] at e
                obtain ⟨e3, e4⟩ := List.cons.inj e
                subst e3
                obtain ⟨p1, p2⟩ := pend_kid hW hx hk
                exact ⟨p1, by rw [p2, hxs]; exact e4⟩
            · unfold fX7_laysContent_118 fX7_laysContent_137
              rw [if_neg (by decide), bind_of (m_following ((hws.tr w2).ml hL) ((hws.tr w2).mp hP) hW hn hx), hxs]
          rw [bind_of (m_isOut hL1 hP1 hxl), bind_of (mo13 hL1 hP1 hxl), bind_of (m_hasText hL1 hP1 hxl), bind_of (mo3 hL1 hP1 hxl)]
          have hj24 : j < 24 := by omega
          refine Or.inl ⟨hj24, ?_⟩
          by_cases ho : outP A x
          · rw [i0 ho]
            exact (no (cB_neg (fun z => z.1 ho))).2
          · rw [i0n ho]
            by_cases hlb : W x 1 = []
            · rw [hlb, if_pos (show nI ([] : List Int32).length = 0 from rfl)]
              by_cases htx : txtP A x
              · rw [i0 htx]
                exact (no (cB_neg (fun z => z.2.2.1 htx))).2
              · rw [i0n htx]
                by_cases h4x : A x 0 = 4
                · rw [if_pos h4x]
                  exact (no (cB_neg (fun z => z.2.2.2 h4x))).2
                · rw [if_neg h4x]
                  exact yes (cB_pos ⟨ho, hlb, htx, h4x⟩)
            · rw [if_neg (show ¬ nI (W x 1).length = 0 from fun z => hlb (len0.mp ((nI_eq0 (show (W x 1).length < 2 ^ 31 by omega)).mp z)))]
              exact (no (cB_neg (fun z => hlb z.2.1))).2) hn (s := (oi (K a)[0]?, M)) ⟨K a, by rw [List.head?_eq_getElem?], fun y ys e => by
                obtain ⟨p1, p2⟩ := pend_kid hW haT e
                rw [pend_top, List.append_nil] at p2
                exact ⟨p1, p2⟩, by have := pre_len hW ha; rw [pre_eq hW ha, List.length_cons] at this; omega, WS.rf, l, hM, by rw [hT]⟩
      exact ⟨M', e, q1, q2⟩
end MWORDS
