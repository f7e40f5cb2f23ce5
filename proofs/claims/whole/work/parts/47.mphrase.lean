/-! ===== LEVEL 2: the reference's parts, names and phrases ===== -/
def by4 (a : Int32) : List Int32 := [(24 : Int32), 16, 8, 0].flatMap (fun s => if ((a >>> (s &&& 31)) &&& 255) ≤ 0 then [] else [(a >>> (s &&& 31)) &&& 255])
theorem jn_jn (l p q : List Int32) (h : p ≠ []) : jn l p ++ q = jn l (p ++ q) := by
  unfold jn
  by_cases hl : l = []
  · rw [if_pos hl, if_pos hl]
  · rw [if_neg hl, if_neg hl, if_neg h, if_neg (fun z => h (List.append_eq_nil_iff.mp z).1), List.append_assoc]
    rfl
section MPHRASE
variable {Sh : Sp} {M : Mm} {μ n : Nat} {A : At} {K : Kt} {W : Wt}
theorem m_part (hL : ML Sh M.2.1 μ) (hP : MP (M.1 (μ + 1)) A K W) (hW : WF A K) (hA : WA A W) (hn : 24 < n) {l : List Int32} (hM : MW M μ l) {a : Nat} (ha : live A a) (hle : (jns l (partW A K W a)).length ≤ 260) : ∃ M', fX7_laysPart n Sh M μ (nI a) = some M' ∧ MW M' μ (jns l (partW A K W a)) ∧ WS μ M M' := by
  have h8 := (hA a ha).2.1
  unfold fX7_laysPart
  rw [bind_of (mo13 hL hP ha)]
  simp only [nI_le0 (show (W a 1).length < 2 ^ 31 by omega), len0]
  unfold partW at hle ⊢
  by_cases h1 : W a 1 = []
  · rw [cif_neg (fun z => z h1)] at hle ⊢
    obtain ⟨M', e, r, w⟩ := m_content hL hP hW hA hn hM ha hle
    rw [if_pos h1, bind_of e]
    exact ⟨M', rfl, r, w⟩
  · rw [cif_pos h1] at hle ⊢
    obtain ⟨M', e, r, w⟩ := m_laysLabel (n := n) hL hP hM ha h8 hn hle
    rw [if_neg h1, bind_of e]
    exact ⟨M', rfl, r, w⟩
theorem m_name (hL : ML Sh M.2.1 μ) (hP : MP (M.1 (μ + 1)) A K W) (hW : WF A K) (hA : WA A W) (hn : 24 < n) {l : List Int32} (hM : MW M μ l) {a : Nat} (ha : live A a) (hle : (jns l (nameW A K W a)).length ≤ 260) : ∃ M', fX7_laysName n Sh M μ (nI a) = some M' ∧ MW M' μ (jns l (nameW A K W a)) ∧ WS μ M M' := by
  obtain ⟨-, h8, hlb, -⟩ := hA a ha
  unfold fX7_laysName fX7_laysName_75
  rw [bind_of (mo3 hL hP ha), bind_of (mo4 hL hP ha), bind_of (mo4 hL hP ha), bind_of (mo13 hL hP ha)]
  simp only [nI_le0 (show (W a 1).length < 2 ^ 31 by omega), len0]
  unfold nameW at hle ⊢
  by_cases h2 : A a 2 = -1
  · rw [cif_neg (fun z => z h2)] at hle ⊢
    rw [if_pos h2]
    by_cases h1 : W a 1 = []
    · rw [cif_neg (fun z => z h1)] at hle ⊢
      rw [if_pos h1]
      by_cases hr : namedP (A a 0)
      · rw [cif_pos hr] at hle ⊢
        obtain ⟨M', e, r, w⟩ := m_content hL hP hW hA hn hM ha hle
        rw [bind_of e]
        refine ⟨M', ?_, r, w⟩
        rcases hr with z | z | z | z | z
        · rw [if_pos z]
        · rw [z]; rfl
        · rw [z]; rfl
        · rw [z]; rfl
        · rw [z]; rfl
      · rw [cif_neg hr]
        refine ⟨M, ?_, hM, WS.rf⟩
        rw [if_neg (fun z => hr (Or.inl z)), if_neg (fun z => hr (Or.inr (Or.inl z))), if_neg (fun z => hr (Or.inr (Or.inr (Or.inl z)))), if_neg (fun z => hr (Or.inr (Or.inr (Or.inr (Or.inl z))))), if_neg (fun z => hr (Or.inr (Or.inr (Or.inr (Or.inr z)))))]
    · rw [cif_pos h1] at hle ⊢
      obtain ⟨M', e, r, w⟩ := m_laysLabel (n := n) hL hP hM ha h8 hn hle
      rw [if_neg h1, bind_of e]
      exact ⟨M', rfl, r, w⟩
  · rw [cif_pos h2] at hle ⊢
    rw [if_neg h2]
    rcases hlb with e | ⟨b, hb, e⟩
    · exact absurd e h2
    · rw [e, nI_clamp hb.lt] at hle ⊢
      obtain ⟨M', e, r, w⟩ := m_content hL hP hW hA hn hM hb hle
      rw [bind_of e]
      exact ⟨M', rfl, r, w⟩
/-- one step of laysWord's loops -/
def wstep (M : Mm) (μ : Nat) (c : Int32) : Mm := uI (uI M (μ + 4) (M.1 μ 7).toNatClampNeg c) μ 7 ((M.1 μ 7) + (if c ≤ 0 then 0 else 1))
theorem wstep_r {l : List Int32} (hM : MW M μ l) (hl : l.length < 260) (c : Int32) : MW (wstep M μ c) μ (l ++ if c ≤ 0 then [] else [c]) ∧ WS μ M (wstep M μ c) := by
  refine ⟨?_, WS.w.tr WS.l⟩
  unfold wstep
  rw [hM.1, nI_clamp (by omega)]
  by_cases hc : c ≤ 0
  · rw [if_pos hc, if_pos hc, List.append_nil, Int32.add_zero]
    refine ⟨uI_same, hM.2.1, fun k hk => ?_⟩
    rw [uI_off (by omega), uI_row (by omega)]
    exact hM.2.2 k hk
  · rw [if_neg hc, if_neg hc, nI_add1]
    exact mw_put hM hl c
theorem wstep_ml (hL : ML Sh M.2.1 μ) (c : Int32) : ML Sh (wstep M μ c).2.1 μ := hL
theorem m_w87 (hL : ML Sh M.2.1 μ) {l : List Int32} (hM : MW M μ l) (hl : l.length < 260) (a b v : Int32) (hv : ¬ v < 0) : fX7_laysWord_87b n Sh μ a b M v = some (Sum.inl (v + (-8), wstep M μ ((b >>> (v &&& 31)) &&& 255))) := by
  unfold fX7_laysWord_87b fX7_laysWord_126
  rw [if_neg hv, tF_of hL.2.1.2.2.2.1]
  simp only [tI_of]
  have h7 : M.1 μ 7 = nI l.length := hM.1
  rw [h7, sI_nI hL.2.2.2.2.2.1 hl (by decide), pI_of hL.1, pI_of hL.1, uI_off (show μ ≠ μ + 4 by omega)]
  unfold wstep
  rw [h7, nI_clamp (by omega)]
  by_cases hc : (b >>> (v &&& 31)) &&& 255 ≤ 0
  · rw [if_pos hc, if_pos hc]
  · rw [if_neg hc, if_neg hc]
theorem m_w35 (hL : ML Sh M.2.1 μ) {l : List Int32} (hM : MW M μ l) (hl : l.length < 260) (a b v : Int32) (hv : ¬ v < 0) : fX7_laysWord_35b n Sh μ a b M v = some (Sum.inl (v + (-8), wstep M μ ((a >>> (v &&& 31)) &&& 255))) := by
  unfold fX7_laysWord_35b fX7_laysWord_74
  rw [if_neg hv, tF_of hL.2.1.2.2.2.1]
  simp only [tI_of]
  have h7 : M.1 μ 7 = nI l.length := hM.1
  rw [h7, sI_nI hL.2.2.2.2.2.1 hl (by decide), pI_of hL.1, pI_of hL.1, uI_off (show μ ≠ μ + 4 by omega)]
  unfold wstep
  rw [h7, nI_clamp (by omega)]
  by_cases hc : (a >>> (v &&& 31)) &&& 255 ≤ 0
  · rw [if_pos hc, if_pos hc]
  · rw [if_neg hc, if_neg hc]
theorem one_len (c : Int32) : (if c ≤ 0 then ([] : List Int32) else [c]).length ≤ 1 := by
  by_cases h : c ≤ 0
  · rw [if_pos h]; exact Nat.zero_le _
  · rw [if_neg h]; exact Nat.le_refl _
/-- four bytes: a loop whose body is known -/
theorem m_four {f : Int32 × Mm → Option ((Int32 × Mm) ⊕ Mm)} (a : Int32) (hf : ∀ M l v, ML Sh M.2.1 μ → MW M μ l → l.length < 260 → ¬ v < 0 → f (v, M) = some (.inl (v + (-8), wstep M μ ((a >>> (v &&& 31)) &&& 255)))) (hL : ML Sh M.2.1 μ) {l : List Int32} (hM : MW M μ l) (hl : l.length + 4 ≤ 260) (hn : 4 < n) : ∃ M', iter n f (24, M) = iter (n - 4) f (-8, M') ∧ MW M' μ (l ++ by4 a) ∧ WS μ M M' := by
  obtain ⟨r1, w1⟩ := wstep_r hM (by omega) ((a >>> ((24 : Int32) &&& 31)) &&& 255)
  have o1 := one_len ((a >>> ((24 : Int32) &&& 31)) &&& 255)
  have o2 := one_len ((a >>> ((16 : Int32) &&& 31)) &&& 255)
  have o3 := one_len ((a >>> ((8 : Int32) &&& 31)) &&& 255)
  obtain ⟨r2, w2⟩ := wstep_r r1 (by rw [List.length_append]; omega) ((a >>> ((16 : Int32) &&& 31)) &&& 255)
  obtain ⟨r3, w3⟩ := wstep_r r2 (by rw [List.length_append, List.length_append]; omega) ((a >>> ((8 : Int32) &&& 31)) &&& 255)
  obtain ⟨r4, w4⟩ := wstep_r r3 (by rw [List.length_append, List.length_append, List.length_append]; omega) ((a >>> ((0 : Int32) &&& 31)) &&& 255)
  have s1 := hf _ _ 24 hL hM (by omega) (by decide)
  have s2 := hf _ _ 16 (wstep_ml hL _) r1 (by rw [List.length_append]; omega) (by decide)
  have s3 := hf _ _ 8 (wstep_ml (wstep_ml hL _) _) r2 (by rw [List.length_append, List.length_append]; omega) (by decide)
  have s4 := hf _ _ 0 (wstep_ml (wstep_ml (wstep_ml hL _) _) _) r3 (by rw [List.length_append, List.length_append, List.length_append]; omega) (by decide)
  rw [show (24 : Int32) + (-8) = 16 by decide] at s1
  rw [show (16 : Int32) + (-8) = 8 by decide] at s2
  rw [show (8 : Int32) + (-8) = 0 by decide] at s3
  rw [show (0 : Int32) + (-8) = -8 by decide] at s4
  refine ⟨_, ?_, ?_, w1.tr (w2.tr (w3.tr w4))⟩
  · rw [iter_go' (by omega) s1, iter_go' (by omega) s2, iter_go' (by omega) s3, iter_go' (by omega) s4, show n - 1 - 1 - 1 - 1 = n - 4 by omega]
  · have : l ++ by4 a = l ++ (if ((a >>> ((24 : Int32) &&& 31)) &&& 255) ≤ 0 then [] else [(a >>> ((24 : Int32) &&& 31)) &&& 255]) ++ (if ((a >>> ((16 : Int32) &&& 31)) &&& 255) ≤ 0 then [] else [(a >>> ((16 : Int32) &&& 31)) &&& 255]) ++ (if ((a >>> ((8 : Int32) &&& 31)) &&& 255) ≤ 0 then [] else [(a >>> ((8 : Int32) &&& 31)) &&& 255]) ++ (if ((a >>> ((0 : Int32) &&& 31)) &&& 255) ≤ 0 then [] else [(a >>> ((0 : Int32) &&& 31)) &&& 255]) := by
      unfold by4
      simp only [List.flatMap_cons, List.flatMap_nil, List.append_nil, List.append_assoc]
    rw [this]
    exact r4
theorem by4_len (a : Int32) : (by4 a).length ≤ 4 := by
  have o1 := one_len ((a >>> ((24 : Int32) &&& 31)) &&& 255)
  have o2 := one_len ((a >>> ((16 : Int32) &&& 31)) &&& 255)
  have o3 := one_len ((a >>> ((8 : Int32) &&& 31)) &&& 255)
  have o4 := one_len ((a >>> ((0 : Int32) &&& 31)) &&& 255)
  unfold by4
  simp only [List.flatMap_cons, List.flatMap_nil, List.append_nil, List.length_append]
  omega
/-- both loops, from words l0 -/
theorem m_two (a b : Int32) (hn : 24 < n) {l0 : List Int32} (hL : ML Sh M.2.1 μ) (hM : MW M μ l0) (hl : l0.length + 8 ≤ 260) : ∃ M', fX7_laysWord_32 n Sh μ a b M = some M' ∧ MW M' μ (l0 ++ (by4 a ++ by4 b)) ∧ WS μ M M' := by
  have h4 := by4_len a
  obtain ⟨M1, e1, r1, w1⟩ := m_four (n := n) (f := fun s : Int32 × Mm => fX7_laysWord_35b n Sh μ a b s.2 s.1) a (fun M l v h1 h2 h3 h4 => m_w35 h1 h2 h3 a b v h4) hL hM (by omega) (by omega)
  obtain ⟨M2, e2, r2, w2⟩ := m_four (n := n) (f := fun s : Int32 × Mm => fX7_laysWord_87b n Sh μ a b s.2 s.1) b (fun M l v h1 h2 h3 h4 => m_w87 h1 h2 h3 a b v h4) (w1.ml hL) r1 (by rw [List.length_append]; omega) (by omega)
  have neg8 : ((-8 : Int32) < 0) = True := eq_true (by decide)
  refine ⟨M2, ?_, by rw [← List.append_assoc]; exact r2, w1.tr w2⟩
  have f2 : fX7_laysWord_87b n Sh μ a b M2 (-8) = some (Sum.inr M2) := by
    unfold fX7_laysWord_87b
    simp only [neg8, if_true]
  have f3 : fX7_laysWord_84 n Sh μ a b M1 = some M2 := by
    unfold fX7_laysWord_84 fX7_laysWord_87
    exact e2.trans (iter_end' (by omega) f2)
  have f1 : fX7_laysWord_35b n Sh μ a b M1 (-8) = some (Sum.inr M2) := by
    unfold fX7_laysWord_35b
    simp only [neg8, if_true, f3]
    rfl
  unfold fX7_laysWord_32 fX7_laysWord_35
  exact e1.trans (iter_end' (by omega) f1)
theorem jn_e (q : List Int32) : jn [] q = [] ++ q := if_pos rfl
theorem m_word (hL : ML Sh M.2.1 μ) {l : List Int32} (hM : MW M μ l) (a b : Int32) (ha : a ≠ 0) (hb : by4 a ≠ []) (hn : 24 < n) (hl : l.length + 9 ≤ 260) : ∃ M', fX7_laysWord n Sh M μ a b = some M' ∧ MW M' μ (jn l (by4 a ++ by4 b)) ∧ WS μ M M' := by
  unfold fX7_laysWord
  rw [if_neg ha]
  simp only [tI_of, hM.1, nI_le0 (show l.length < 2 ^ 31 by omega), len0]
  by_cases h : l = []
  · subst h
    rw [if_pos rfl]
    rw [jn_e]
    exact m_two a b hn hL hM (by rw [List.length_nil]; omega)
  · rw [if_neg h, tF_of hL.2.1.2.2.2.1, sI_nI hL.2.2.2.2.2.1 (by omega) (by decide)]
    simp only [qI_of]
    rw [uI_off (by omega), hM.1, nI_add1]
    have w1 : WS μ M (uI (uI M (μ + 4) l.length 32) μ 7 (nI (l.length + 1))) := WS.w.tr WS.l
    obtain ⟨M', e, r, w⟩ := m_two (n := n) (l0 := l ++ [32]) a b hn (w1.ml hL) (mw_put hM (by omega) 32) (by rw [List.length_append, List.length_singleton]; omega)
    refine ⟨M', e, ?_, w1.tr w⟩
    have : jn l (by4 a ++ by4 b) = l ++ [32] ++ (by4 a ++ by4 b) := by
      unfold jn
      rw [if_neg h, if_neg (fun z => hb (List.append_eq_nil_iff.mp z).1), List.append_assoc]
      rfl
    rw [this]
    exact r
theorem m_wd (hL : ML Sh M.2.1 μ) {l : List Int32} (hM : MW M μ l) (hn : 24 < n) (hl : l.length + 9 ≤ 260) (a b : Int32) (wd : List Int32) (h : a ≠ 0 ∧ by4 a ≠ [] ∧ by4 a ++ by4 b = wd) : ∃ M', ((fX7_laysWord n Sh M μ a b).bind fun r3 => some r3) = some M' ∧ MW M' μ (jn l wd) ∧ WS μ M M' := by
  obtain ⟨h1, h2, h3⟩ := h
  obtain ⟨M', e, r, w⟩ := m_word hL hM a b h1 h2 hn hl
  rw [bind_of e, ← h3]
  exact ⟨M', rfl, r, w⟩
theorem m_role (hL : ML Sh M.2.1 μ) {l : List Int32} (hM : MW M μ l) (r : Int32) (hn : 24 < n) (hl : l.length + 9 ≤ 260) : ∃ M', fX7_laysRole n Sh M μ r = some M' ∧ MW M' μ (jn l (roleWd r)) ∧ WS μ M M' := by
  have wd := m_wd (n := n) hL hM hn hl
  unfold fX7_laysRole roleWd fX7_four
  simp only [bindS]
  by_cases h2 : r = 2
  · rw [if_pos h2, if_pos h2]; exact wd _ _ _ (by decide +kernel)
  rw [if_neg h2, if_neg h2]
  by_cases h3 : r = 3
  · rw [if_pos h3, if_pos h3]; exact wd _ _ _ (by decide +kernel)
  rw [if_neg h3, if_neg h3]
  by_cases h4 : r = 4
  · rw [if_pos h4, if_pos h4]; exact wd _ _ _ (by decide +kernel)
  rw [if_neg h4, if_neg h4]
  by_cases h5 : r = 5
  · rw [if_pos h5, if_pos h5]; exact wd _ _ _ (by decide +kernel)
  rw [if_neg h5, if_neg h5]
  by_cases h6 : r = 6
  · rw [if_pos h6, if_pos h6]; exact wd _ _ _ (by decide +kernel)
  rw [if_neg h6, if_neg h6]
  by_cases h7 : r = 7
  · rw [if_pos h7, if_pos h7]; exact wd _ _ _ (by decide +kernel)
  rw [if_neg h7, if_neg h7]
  by_cases h8 : r = 8
  · rw [if_pos h8, if_neg (by rw [h8]; decide), jn_nil]; exact ⟨M, rfl, hM, WS.rf⟩
  rw [if_neg h8]
  by_cases h9 : r = 9
  · rw [if_pos h9, if_neg (by rw [h9]; decide), jn_nil]; exact ⟨M, rfl, hM, WS.rf⟩
  rw [if_neg h9]
  by_cases h10 : r = 10
  · rw [if_pos h10, if_pos h10]; exact wd _ _ _ (by decide +kernel)
  · rw [if_neg h10, if_neg h10, jn_nil]; exact ⟨M, rfl, hM, WS.rf⟩
theorem disWd_len {l : List Int32} : l.length + 8 ≤ (jn l disWd).length ∨ l = [] := by
  by_cases h : l = []
  · exact Or.inr h
  · left
    unfold jn
    rw [if_neg h, if_neg (by decide), List.length_append, List.length_cons]
    have : disWd.length = 8 := by decide
    omega
theorem m_phrase (hL : ML Sh M.2.1 μ) (hP : MP (M.1 (μ + 1)) A K W) (hW : WF A K) (hA : WA A W) (hn : 24 < n) {l : List Int32} (hM : MW M μ l) {a : Nat} (ha : live A a) (hle : (jns l (phraseW A K W a)).length ≤ 251) : ∃ M', fX7_laysPhrase n Sh M μ (nI a) = some M' ∧ MW M' μ (jns l (phraseW A K W a)) ∧ WS μ M M' := by
  obtain ⟨h80, h8, hlb, -⟩ := hA a ha
  unfold phraseW at hle ⊢
  rw [jns_app, jns_app, jns_app, jns_one] at hle ⊢
  have b3 := jns_len (cif (A a 6 = 1) [disWd] []) (jns (jn (jns l (nameW A K W a)) (roleWd (A a 0))) (cif (A a 0 = 5) [W a 0] []))
  have b2 := jns_len (cif (A a 0 = 5) [W a 0] []) (jn (jns l (nameW A K W a)) (roleWd (A a 0)))
  have b1 := jn_len (jns l (nameW A K W a)) (roleWd (A a 0))
  unfold fX7_laysPhrase
  obtain ⟨M1, e1, r1, w1⟩ := m_name hL hP hW hA hn hM ha (by omega)
  rw [bind_of e1, bind_of (mo3 (w1.ml hL) (w1.mp hP) ha)]
  obtain ⟨M2, e2, r2, w2⟩ := m_role (w1.ml hL) r1 (A a 0) hn (by omega)
  have w12 := w1.tr w2
  rw [bind_of e2, bind_of (mo3 (w12.ml hL) (w12.mp hP) ha)]
  have last : ∀ (M3 : Mm) (l3 : List Int32), WS μ M M3 → MW M3 μ l3 → l3.length + 9 ≤ 260 → ∃ M', fX7_laysPhrase_30 n Sh μ (nI a) M3 = some M' ∧ MW M' μ (jns l3 (cif (A a 6 = 1) [disWd] [])) ∧ WS μ M M' := by
    intro M3 l3 w r h9
    unfold fX7_laysPhrase_30 fX7_four
    rw [bind_of (mo6 (w.ml hL) (w.mp hP) ha)]
    by_cases h6 : A a 6 = 1
    · rw [if_pos h6, cif_pos h6, jns_one]
      rw [bindS, bindS]
      obtain ⟨M4, e4, r4, w4⟩ : ∃ M', ((fX7_laysWord n Sh M3 μ _ _).bind fun r4 => some r4) = some M' ∧ MW M' μ (jn l3 disWd) ∧ WS μ M3 M' := m_wd (w.ml hL) r hn h9 ((((100 <<< ((24 : Int32) &&& 31)) ||| (105 <<< ((16 : Int32) &&& 31))) ||| (115 <<< ((8 : Int32) &&& 31))) ||| 97) ((((98 <<< ((24 : Int32) &&& 31)) ||| (108 <<< ((16 : Int32) &&& 31))) ||| (101 <<< ((8 : Int32) &&& 31))) ||| 100) disWd (by decide +kernel)
      exact ⟨M4, e4, r4, w.tr w4⟩
    · rw [if_neg h6, cif_neg h6, jns_nil]
      exact ⟨M3, rfl, r, w⟩
  by_cases h5 : A a 0 = 5
  · rw [cif_pos h5, jns_one] at hle b2 b3 ⊢
    rw [if_pos h5]
    obtain ⟨M3, e3, r3, w3⟩ := m_laysText (n := n) (w12.ml hL) (w12.mp hP) r2 ha h80 hn (by omega)
    rw [bind_of e3]
    exact last M3 _ (w12.tr w3) r3 (by omega)
  · rw [cif_neg h5, jns_nil] at hle b2 b3 ⊢
    rw [if_neg h5]
    exact last M2 _ w12 r2 (by omega)
/-- the words of a kind -/
noncomputable def kindW (A : At) (K : Kt) (W : Wt) (a : Nat) (w : Int32) : List (List Int32) := if w = 0 then [W a 0] else if w = 1 then [W a 1] else if w = 2 then nameW A K W a else if w = 3 then phraseW A K W a else if w = 4 then contW A K W a else partW A K W a
theorem m_lay (hL : ML Sh M.2.1 μ) (hP : MP (M.1 (μ + 1)) A K W) (hW : WF A K) (hA : WA A W) (hn : 24 < n) {a : Nat} (ha : live A a) (w : Int32) (hle : (jns [] (kindW A K W a w)).length ≤ 251) : ∃ M', fX7_lay n Sh M μ (nI a) w = some M' ∧ MW M' μ (jns [] (kindW A K W a w)) ∧ WS μ M M' := by
  obtain ⟨h80, h8, -, -⟩ := hA a ha
  have w0 : WS μ M (uI M μ 7 0) := WS.l
  have hM0 : MW (uI M μ 7 0) μ [] := ⟨uI_same, by decide, fun k hk => absurd hk (Nat.not_lt_zero k)⟩
  have fin : ∀ {x : Option Mm} {ps : List (List Int32)}, (∃ M', x = some M' ∧ MW M' μ (jns [] ps) ∧ WS μ (uI M μ 7 0) M') → ∃ M', (x.bind fun r => some r) = some M' ∧ MW M' μ (jns [] ps) ∧ WS μ M M' := by
    rintro x ps ⟨M', e, r, z⟩
    rw [bind_of e]
    exact ⟨M', rfl, r, w0.tr z⟩
  unfold fX7_lay
  simp only [qI_of]
  unfold kindW at hle ⊢
  by_cases q0 : w = 0
  · rw [if_pos q0] at hle ⊢
    rw [if_pos q0]
    exact fin (m_laysText (w0.ml hL) (w0.mp hP) hM0 ha h80 hn (by rw [jns_one] at hle; omega))
  rw [if_neg q0] at hle ⊢
  rw [if_neg q0]
  by_cases q1 : w = 1
  · rw [if_pos q1] at hle ⊢
    rw [if_pos q1]
    exact fin (m_laysLabel (w0.ml hL) (w0.mp hP) hM0 ha h8 hn (by rw [jns_one] at hle; omega))
  rw [if_neg q1] at hle ⊢
  rw [if_neg q1]
  by_cases q2 : w = 2
  · rw [if_pos q2] at hle ⊢
    rw [if_pos q2]
    exact fin (m_name (w0.ml hL) (w0.mp hP) hW hA hn hM0 ha (by omega))
  rw [if_neg q2] at hle ⊢
  rw [if_neg q2]
  by_cases q3 : w = 3
  · rw [if_pos q3] at hle ⊢
    rw [if_pos q3]
    exact fin (m_phrase (w0.ml hL) (w0.mp hP) hW hA hn hM0 ha hle)
  rw [if_neg q3] at hle ⊢
  rw [if_neg q3]
  by_cases q4 : w = 4
  · rw [if_pos q4] at hle ⊢
    rw [if_pos q4]
    exact fin (m_content (w0.ml hL) (w0.mp hP) hW hA hn hM0 ha (by omega))
  · rw [if_neg q4] at hle ⊢
    rw [if_neg q4]
    exact fin (m_part (w0.ml hL) (w0.mp hP) hW hA hn hM0 ha (by omega))
end MPHRASE
