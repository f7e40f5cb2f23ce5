/-! ===== LEVEL 2: the reference's walks ===== -/
def shownP (A : At) (v : Int32) : Prop := ∀ x ∈ chain A v, ¬ outP A x
theorem kAt_nI {l : List Nat} {r : Nat} (h : r < 2 ^ 31) : kAt l (nI r) = oi l[r]? := by
  unfold kAt
  rw [if_neg (nI_pos h), nI_clamp h]
theorem oi_some {o : Option Nat} {k : Nat} (h : o = some k) : oi o = nI k := by rw [h]; rfl
theorem oi_none {o : Option Nat} (h : o = none) : oi o = -1 := by rw [h]; rfl
section MWALK
variable {Sh : Sp} {M : Mm} {μ n : Nat} {A : At} {K : Kt} {W : Wt}
theorem m_behind (hL : ML Sh M.2.1 μ) (hP : MP (M.1 (μ + 1)) A K W) (hW : WF A K) (hn : 24 < n) {a top : Nat} (ha : inT A top a) : fX7_behind n Sh M μ (nI a) (nI top) = some (oi (pend A K top a).head?) := by
  unfold fX7_behind fX7_behind_2
  have htop : live A top := chain_live hW (Or.inr ⟨a, ha.1, rfl⟩) ha.2
  obtain ⟨r, e, q⟩ := iter_inv (f := fun s => fX7_behind_2b n Sh M μ (nI a) (nI top) s) 24 (fun j s => ∃ x, s = nI x ∧ inT A top x ∧ dp A x + j ≤ 24 ∧ (pend A K top x).head? = (pend A K top a).head?) (fun r => r = oi (pend A K top a).head?) (fun j s hj hI => by
    obtain ⟨x, rfl, hx, hd, he⟩ := hI
    have h1 := dp_le hW hx.1
    unfold fX7_behind_2b
    by_cases ht : x = top
    · subst ht
      rw [pend_top] at he
      refine Or.inr ⟨-1, ?_, by rw [← he]; rfl⟩
      show (if nI x = nI x then _ else _) = _
      rw [if_pos rfl]
    · obtain ⟨p, hp, e1, hk, hT⟩ := inT_par hW hx ht
      obtain ⟨k1, k2, k3⟩ := rank_eq hW hx.1 hp e1
      have h2 := dp_kid hW hp hk
      rw [pend_eq hW hx ht hp e1] at he
      have hif : ∀ {α : Type} {u v : α}, (if nI x = nI top then u else v) = v := fun {α u v} => if_neg (fun z => ht (nI_inj hx.1.lt htop.lt z))
      rw [hif, bind_of (mo1 hL hP hx.1), bind_of (mo2 hL hP hx.1), e1, nI_add1, bind_of (m_childAt hL hP hW hn hp _), kAt_nI (by omega), k1]
      cases hg : (K p)[(K p).idxOf x + 1]? with
      | none =>
        have hd0 : (K p).drop ((K p).idxOf x + 1) = [] := List.drop_eq_nil_of_le (List.getElem?_eq_none_iff.mp hg)
        rw [hd0] at he
        refine Or.inl ⟨by omega, nI p, ?_, p, rfl, hT, by omega, he⟩
        rw [if_pos (show oi none = -1 from rfl), bind_of (mo1 hL hP hx.1), e1]
      | some y =>
        obtain ⟨hr, e3⟩ := List.getElem?_eq_some_iff.mp hg
        rw [List.drop_eq_getElem_cons hr, e3] at he
        have hy := (hW.2.2.1 p hp y (List.mem_of_getElem? hg)).1
        refine Or.inr ⟨nI y, ?_, by rw [← he]; rfl⟩
        rw [if_neg (show ¬ oi (some y) = -1 from nI_ne_neg hy.lt)]
        rfl) hn (s := nI a) ⟨a, rfl, ha, by have := dp_le hW ha.1; omega, rfl⟩
  rw [e, q]
theorem m_following (hL : ML Sh M.2.1 μ) (hP : MP (M.1 (μ + 1)) A K W) (hW : WF A K) (hn : 24 < n) {a top : Nat} (ha : inT A top a) : fX7_following n Sh M μ (nI a) (nI top) = some (oi (K a ++ pend A K top a).head?) := by
  unfold fX7_following
  rw [bind_of (m_childAt hL hP hW hn ha.1 0), show (0 : Int32) = nI 0 from rfl, kAt_nI (by decide)]
  cases hk : K a with
  | nil =>
    rw [show oi ([] : List Nat)[0]? = -1 from rfl, if_pos rfl, bind_of (m_behind hL hP hW hn ha)]
    rfl
  | cons k ks =>
    have hl := (hW.2.2.1 a ha.1 k (by rw [hk]; exact List.mem_cons_self)).1
    rw [show oi (k :: ks)[0]? = nI k from rfl, if_neg (nI_ne_neg hl.lt)]
    rfl
theorem m_isBelow (hL : ML Sh M.2.1 μ) (hP : MP (M.1 (μ + 1)) A K W) (hW : WF A K) (hn : 24 < n) {a t : Nat} (ha : live A a) (ht : t < 24) : fX7_isBelow n Sh M μ (nI a) (nI t) = some (bI (t ∈ chain A (A a 1))) := by
  unfold fX7_isBelow
  rw [bind_of (mo1 hL hP ha)]
  unfold fX7_isBelow_7
  have h0 := hW.par ha
  obtain ⟨r, e, q⟩ := iter_inv (f := fun s => fX7_isBelow_7b n Sh M μ (nI a) (nI t) s) 24 (fun j s => orN A s ∧ (chain A s).length + j ≤ 24 ∧ (t ∈ chain A s ↔ t ∈ chain A (A a 1))) (fun r => r = bI (t ∈ chain A (A a 1))) (fun j s hj hI => by
    obtain ⟨ho, hd, he⟩ := hI
    unfold fX7_isBelow_7b fX7_isBelow_27
    rcases ho with e | ⟨p, hp, e⟩
    · subst e
      rw [if_pos rfl, if_neg (fun z => nI_ne_neg (by omega) z.symm)]
      refine Or.inr ⟨0, rfl, (bI_neg ?_).symm⟩
      rw [← he, chain_neg (by decide)]
      exact List.not_mem_nil
    · subst e
      rw [chain_cons hW hp] at he hd
      rw [if_neg (nI_ne_neg hp.lt)]
      by_cases hpt : p = t
      · subst hpt
        rw [if_pos rfl, if_pos rfl]
        exact Or.inr ⟨1, rfl, (bI_pos (he.mp List.mem_cons_self)).symm⟩
      · rw [if_neg (fun z => hpt (nI_inj hp.lt (by omega) z)), bind_of (mo1 hL hP hp)]
        rw [List.length_cons] at hd
        exact Or.inl ⟨by omega, _, rfl, hW.par hp, by omega, by rw [← he, List.mem_cons]; exact ⟨Or.inr, fun z => z.resolve_left (fun y => hpt y.symm)⟩⟩) hn (s := A a 1) ⟨h0, by have := chain_len hW h0; omega, Iff.rfl⟩
  rw [e, q]
theorem m_isOut (hL : ML Sh M.2.1 μ) (hP : MP (M.1 (μ + 1)) A K W) {a : Nat} (ha : live A a) : fX7_isOut n Sh M μ (nI a) = some (bI (outP A a)) := by
  unfold fX7_isOut fX7_isOut_31 outP
  rw [bind_of (mo5 hL hP ha)]
  by_cases h1 : A a 5 = 1
  · rw [if_pos h1, bI_pos (Or.inl h1)]
  · rw [if_neg h1, bind_of (mo3 hL hP ha)]
    by_cases h2 : A a 0 = 6
    · rw [if_pos h2, bind_of (mo10 hL hP ha)]
      by_cases h3 : A a 3 = 0
      · rw [if_pos h3, bI_pos (Or.inr ⟨h2, h3⟩)]
      · rw [if_neg h3, bI_neg (fun z => z.elim h1 (fun y => h3 y.2))]
    · rw [if_neg h2, bI_neg (fun z => z.elim h1 (fun y => h2 y.1))]
theorem m_isShown (hL : ML Sh M.2.1 μ) (hP : MP (M.1 (μ + 1)) A K W) (hW : WF A K) (hn : 24 < n) {a : Nat} (ha : live A a) : fX7_isShown n Sh M μ (nI a) = some (bI (shownP A (nI a))) := by
  unfold fX7_isShown fX7_isShown_4
  have h0 : orN A (nI a) := Or.inr ⟨a, ha, rfl⟩
  obtain ⟨r, e, q⟩ := iter_inv (f := fun s : Int32 × Int32 => fX7_isShown_4b n Sh M μ (nI a) s.1 s.2) 24 (fun j s => orN A s.2 ∧ (chain A s.2).length + j ≤ 24 ∧ (s.1 = 0 ∨ s.1 = 1) ∧ ((s.1 = 1 ∧ shownP A s.2) ↔ shownP A (nI a))) (fun r => r = bI (shownP A (nI a))) (fun j s hj hI => by
    obtain ⟨v2, v3⟩ := s
    obtain ⟨ho, hd, hb, he⟩ := hI
    dsimp only at ho hd hb he ⊢
    unfold fX7_isShown_4b fX7_isShown_25 fX7_isShown_26
    rcases ho with e | ⟨p, hp, e⟩
    · subst e
      rw [if_pos rfl, chk_pos hb]
      refine Or.inr ⟨v2, rfl, ?_⟩
      have hs : shownP A (-1) := fun x hx => by rw [chain_neg (by decide)] at hx; exact absurd hx List.not_mem_nil
      rcases hb with e | e
      · subst e
        rw [bI_neg (fun z => absurd (he.mpr z).1 (by decide))]
      · subst e
        rw [bI_pos (he.mp ⟨rfl, hs⟩)]
    · subst e
      have hc : shownP A (nI p) ↔ (¬ outP A p ∧ shownP A (A p 1)) := by
        unfold shownP
        rw [chain_cons hW hp]
        simp only [List.mem_cons, forall_eq_or_imp]
      rw [chain_cons hW hp, List.length_cons] at hd
      rw [if_neg (nI_ne_neg hp.lt)]
      by_cases hv : v2 = 0
      · rw [if_pos hv, bind_of (mo1 hL hP hp)]
        refine Or.inl ⟨by omega, _, rfl, hW.par hp, by show (chain A (A p 1)).length + (j + 1) ≤ 24; omega, Or.inl rfl, ?_⟩
        constructor
        · intro z; exact absurd (show (0 : Int32) = 1 from z.1) (by decide)
        · intro z
          have := (he.mpr z).1
          rw [hv] at this
          exact absurd this (by decide)
      · have hv1 : v2 = 1 := hb.resolve_left hv
        rw [if_neg hv, bind_of (m_isOut hL hP hp)]
        by_cases ho : outP A p
        · rw [i0 ho, bind_of (mo1 hL hP hp)]
          refine Or.inl ⟨by omega, _, rfl, hW.par hp, by show (chain A (A p 1)).length + (j + 1) ≤ 24; omega, Or.inl rfl, ?_⟩
          constructor
          · intro z; exact absurd (show (0 : Int32) = 1 from z.1) (by decide)
          · intro z
            exact absurd ho (hc.mp (he.mpr z).2).1
        · rw [i0n ho, bind_of (mo1 hL hP hp)]
          refine Or.inl ⟨by omega, _, rfl, hW.par hp, by show (chain A (A p 1)).length + (j + 1) ≤ 24; omega, Or.inr rfl, ?_⟩
          rw [← he, hc]
          exact ⟨fun z => ⟨hv1, ho, z.2⟩, fun z => ⟨rfl, z.2.2⟩⟩) hn (s := (1, nI a)) ⟨h0, by have := chain_len hW h0; show (chain A (nI a)).length + 0 ≤ 24; omega, Or.inr rfl, ⟨fun z => z.2, fun z => ⟨rfl, z⟩⟩⟩
  rw [e, q]
theorem regn_neg : regn A (-1) = -1 := by unfold regn; rw [chain_neg (by decide)]; rfl
theorem regn_nI (hW : WF A K) {p : Nat} (hp : live A p) : regn A (nI p) = if A p 8 = 0 then regn A (A p 1) else if A p 8 = 1 then -1 else nI p := by
  unfold regn
  rw [chain_cons hW hp]
  by_cases h : A p 8 = 0
  · rw [if_pos h, List.find?_cons_of_neg (by simp [h])]
  · rw [if_neg h, List.find?_cons_of_pos (by simp [h])]
theorem m_regionOf (hL : ML Sh M.2.1 μ) (hP : MP (M.1 (μ + 1)) A K W) (hW : WF A K) (hn : 24 < n) {a : Nat} (ha : live A a) : fX7_regionOf n Sh M μ (nI a) = some (regn A (nI a)) := by
  unfold fX7_regionOf fX7_regionOf_2
  have h0 : orN A (nI a) := Or.inr ⟨a, ha, rfl⟩
  obtain ⟨r, e, q⟩ := iter_inv (f := fun s => fX7_regionOf_2b n Sh M μ (nI a) s) 24 (fun j s => orN A s ∧ (chain A s).length + j ≤ 24 ∧ regn A s = regn A (nI a)) (fun r => r = regn A (nI a)) (fun j s hj hI => by
    obtain ⟨ho, hd, he⟩ := hI
    unfold fX7_regionOf_2b fX7_regionOf_27 fX7_regionOf_43
    rcases ho with e | ⟨p, hp, e⟩
    · subst e
      rw [if_pos rfl, if_pos rfl]
      refine Or.inr ⟨-1, rfl, ?_⟩
      rw [← he, regn_neg]
    · subst e
      rw [regn_nI hW hp] at he
      rw [chain_cons hW hp, List.length_cons] at hd
      rw [if_neg (nI_ne_neg hp.lt), if_neg (nI_ne_neg hp.lt), bind_of (mo8 hL hP hp), bind_of (mo8 hL hP hp)]
      by_cases h8 : A p 8 = 0
      · rw [if_pos h8] at he
        rw [if_pos h8, bind_of (mo1 hL hP hp)]
        exact Or.inl ⟨by omega, _, rfl, hW.par hp, by omega, he⟩
      · rw [if_neg h8] at he
        rw [if_neg h8]
        by_cases h81 : A p 8 = 1
        · rw [if_pos h81] at he
          rw [if_pos h81]
          exact Or.inr ⟨-1, rfl, he⟩
        · rw [if_neg h81] at he
          rw [if_neg h81]
          exact Or.inr ⟨nI p, rfl, he⟩) hn (s := nI a) ⟨h0, by have := chain_len hW h0; omega, rfl⟩
  rw [e, q]
def txtP (A : At) (j : Nat) : Prop := A j 0 = 1 ∨ A j 0 = 5
theorem m_hasText (hL : ML Sh M.2.1 μ) (hP : MP (M.1 (μ + 1)) A K W) {a : Nat} (ha : live A a) : fX7_hasText n Sh M μ (nI a) = some (bI (txtP A a)) := by
  unfold fX7_hasText fX7_hasText_20 txtP
  rw [bind_of (mo3 hL hP ha)]
  by_cases h1 : A a 0 = 1
  · rw [if_pos h1, bI_pos (Or.inl h1)]
  · rw [if_neg h1, bind_of (mo3 hL hP ha)]
    by_cases h2 : A a 0 = 5
    · rw [if_pos h2, bI_pos (Or.inr h2)]
    · rw [if_neg h2, bI_neg (fun z => z.elim h1 h2)]
end MWALK
