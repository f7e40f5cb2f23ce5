/-! ===== LEVEL 2: the reference's page, read ===== -/
def kAt (l : List Nat) (v : Int32) : Int32 := if v < 0 then -1 else oi (l[v.toNatClampNeg]?)
def outP (A : At) (j : Nat) : Prop := A j 5 = 1 ∨ (A j 0 = 6 ∧ A j 3 = 0)
def rank (A : At) (K : Kt) (j : Nat) : Nat := if A j 1 < 0 then 0 else (K (A j 1).toNatClampNeg).idxOf j
def regn (A : At) (v : Int32) : Int32 := match (chain A v).find? (fun x => decide (A x 8 ≠ 0)) with
  | none => -1
  | some x => if A x 8 = 1 then -1 else nI x
def ML (Sh : Sp) (R : Nat → Nat → Option Nat) (μ : Nat) : Prop := Sh μ = some (.inl 7) ∧ (R μ 0 = some (μ + 1) ∧ R μ 1 = some (μ + 2) ∧ R μ 3 = some (μ + 3) ∧ R μ 6 = some (μ + 4) ∧ R μ 8 = some (μ + 5) ∧ R μ 9 = some (μ + 6)) ∧ Sh (μ + 1) = some (.inr (0, 3405)) ∧ Sh (μ + 2) = some (.inr (0, 17025)) ∧ Sh (μ + 3) = some (.inr (0, 8)) ∧ Sh (μ + 4) = some (.inr (0, 260)) ∧ Sh (μ + 5) = some (.inr (3, 24)) ∧ Sh (μ + 6) = some (.inr (0, 24))
/-- the page holds the tree -/
def MP (pg : Nat → Int32) (A : At) (K : Kt) (W : Wt) : Prop := ∀ j, j < 24 → pg (30 * j) = bI (live A j) ∧ (live A j → pg (30 * j + 1) = A j 1 ∧ pg (30 * j + 2) = nI (rank A K j) ∧ pg (30 * j + 3) = A j 0 ∧ pg (30 * j + 4) = A j 2 ∧ (∀ s, s < 5 → pg (30 * j + (5 + s)) = A j (5 + s)) ∧ pg (30 * j + 10) = A j 3 ∧ pg (30 * j + 11) = (if A j 3 = 0 then -1 else A j 4) ∧ pg (30 * j + 12) = nI (W j 0).length ∧ pg (30 * j + 13) = nI (W j 1).length ∧ (∀ k, k < (W j 0).length → pg (30 * j + (14 + k)) = (W j 0).getD k 0) ∧ (∀ k, k < (W j 1).length → pg (30 * j + (22 + k)) = (W j 1).getD k 0))
theorem get_idx : ∀ {l : List Nat} {k : Nat}, k ∈ l → l[l.idxOf k]? = some k := by
  intro l
  induction l with
  | nil => intro k h; exact absurd h List.not_mem_nil
  | cons a l ih =>
    intro k h
    by_cases e : a = k
    · subst e; simp
    · rw [List.idxOf_cons, show (a == k) = false from beq_false_of_ne e]
      rcases List.mem_cons.mp h with e' | h
      · exact absurd e'.symm e
      · exact ih h
theorem idx_get {l : List Nat} (hl : l.Nodup) {r k : Nat} (h : l[r]? = some k) : l.idxOf k = r := by
  obtain ⟨hr, e⟩ := List.getElem?_eq_some_iff.mp h
  have : l.drop r = k :: l.drop (r + 1) := by rw [List.drop_eq_getElem_cons hr, e]
  exact (idx_drop hl this).1
/-- how many numbers below N stand in a list -/
theorem filt_len (l : List Nat) (hl : l.Nodup) (N : Nat) : (l.filter (fun x => decide (x < N + 1))).length = (l.filter (fun x => decide (x < N))).length + (if N ∈ l then 1 else 0) := by
  induction l with
  | nil => rfl
  | cons a l ih =>
    obtain ⟨ha, hl'⟩ := List.nodup_cons.mp hl
    have ih := ih hl'
    by_cases h1 : a < N
    · have h2 : a < N + 1 := by omega
      have h3 : N ≠ a := by omega
      simp only [List.filter_cons, decide_eq_true h1, decide_eq_true h2, if_true, List.length_cons, ih, List.mem_cons, h3, false_or]
      omega
    · by_cases h2 : a = N
      · subst h2
        rw [if_neg ha] at ih
        simp [ih]
      · have h3 : ¬ a < N + 1 := by omega
        have h4 : N ≠ a := fun z => h2 z.symm
        simp only [List.filter_cons, decide_eq_false h1, decide_eq_false h3, Bool.false_eq_true, if_false, ih, List.mem_cons, h4, false_or]
theorem nI_addm (a b : Nat) : nI a + nI b = nI (a + b) := (Int32.ofNat_add a b).symm
theorem nI_mulm (a b : Nat) : nI a * nI b = nI (a * b) := (Int32.ofNat_mul a b).symm
theorem i1 {α : Type} {P : Prop} {a b : α} (h : P) : (if bI P = 1 then a else b) = a := if_pos (bI_pos h)
theorem i1n {α : Type} {P : Prop} {a b : α} (h : ¬ P) : (if bI P = 1 then a else b) = b := if_neg (by rw [bI_neg h]; decide)
theorem i0 {α : Type} {P : Prop} {a b : α} (h : P) : (if bI P = 0 then a else b) = b := if_neg (by rw [bI_pos h]; decide)
theorem i0n {α : Type} {P : Prop} {a b : α} (h : ¬ P) : (if bI P = 0 then a else b) = a := if_pos (bI_neg h)
theorem bindS {α ρ : Type} {v : α} {K : α → Option ρ} : (some v).bind K = K v := rfl
theorem mul30 {j k : Nat} (hj : j < 24) (hk : k < 30) : (30 * nI j) + nI k = nI (30 * j + k) := by
  rw [show (30 : Int32) = nI 30 from rfl, nI_mulm, nI_addm]
section MREAD
variable {Sh : Sp} {M : Mm} {μ n : Nat} {A : At} {K : Kt} {W : Wt}
theorem m_at {ρ : Type} (hL : ML Sh M.2.1 μ) {i : Nat} (hi : i < 3405) {X : Int32 → Option ρ} : (tF M μ 0 fun b => aI Sh M b 0 (nI i) X) = X (M.1 (μ + 1) i) := by
  rw [tF_of hL.2.1.1, aI_nI hL.2.2.1 hi (by decide)]
theorem m_of (hL : ML Sh M.2.1 μ) {j w : Nat} (hj : j < 24) (hw : w < 30) : fX7_of n Sh M μ (nI j) (nI w) = some (M.1 (μ + 1) (30 * j + w)) := by
  unfold fX7_of
  rw [mul30 hj hw, m_at hL (by omega)]
variable (hL : ML Sh M.2.1 μ) (hP : MP (M.1 (μ + 1)) A K W)
theorem mo0 (hL : ML Sh M.2.1 μ) (hP : MP (M.1 (μ + 1)) A K W) {j : Nat} (hj : j < 24) : fX7_of n Sh M μ (nI j) 0 = some (bI (live A j)) := (m_of hL hj (w := 0) (by decide)).trans (by rw [show 30 * j + 0 = 30 * j from rfl, (hP j hj).1])
theorem mo1 (hL : ML Sh M.2.1 μ) (hP : MP (M.1 (μ + 1)) A K W) {j : Nat} (hj : live A j) : fX7_of n Sh M μ (nI j) 1 = some (A j 1) := (m_of hL hj.1 (w := 1) (by decide)).trans (by rw [((hP j hj.1).2 hj).1])
theorem mo2 (hL : ML Sh M.2.1 μ) (hP : MP (M.1 (μ + 1)) A K W) {j : Nat} (hj : live A j) : fX7_of n Sh M μ (nI j) 2 = some (nI (rank A K j)) := (m_of hL hj.1 (w := 2) (by decide)).trans (by rw [((hP j hj.1).2 hj).2.1])
theorem mo3 (hL : ML Sh M.2.1 μ) (hP : MP (M.1 (μ + 1)) A K W) {j : Nat} (hj : live A j) : fX7_of n Sh M μ (nI j) 3 = some (A j 0) := (m_of hL hj.1 (w := 3) (by decide)).trans (by rw [((hP j hj.1).2 hj).2.2.1])
theorem mo4 (hL : ML Sh M.2.1 μ) (hP : MP (M.1 (μ + 1)) A K W) {j : Nat} (hj : live A j) : fX7_of n Sh M μ (nI j) 4 = some (A j 2) := (m_of hL hj.1 (w := 4) (by decide)).trans (by rw [((hP j hj.1).2 hj).2.2.2.1])
theorem mos (hL : ML Sh M.2.1 μ) (hP : MP (M.1 (μ + 1)) A K W) {j s : Nat} (hj : live A j) (hs : s < 5) : fX7_of n Sh M μ (nI j) (nI (5 + s)) = some (A j (5 + s)) := (m_of hL hj.1 (w := 5 + s) (by omega)).trans (by rw [((hP j hj.1).2 hj).2.2.2.2.1 s hs])
theorem mo5 (hL : ML Sh M.2.1 μ) (hP : MP (M.1 (μ + 1)) A K W) {j : Nat} (hj : live A j) : fX7_of n Sh M μ (nI j) 5 = some (A j 5) := mos hL hP hj (s := 0) (by decide)
theorem mo6 (hL : ML Sh M.2.1 μ) (hP : MP (M.1 (μ + 1)) A K W) {j : Nat} (hj : live A j) : fX7_of n Sh M μ (nI j) 6 = some (A j 6) := mos hL hP hj (s := 1) (by decide)
theorem mo7 (hL : ML Sh M.2.1 μ) (hP : MP (M.1 (μ + 1)) A K W) {j : Nat} (hj : live A j) : fX7_of n Sh M μ (nI j) 7 = some (A j 7) := mos hL hP hj (s := 2) (by decide)
theorem mo8 (hL : ML Sh M.2.1 μ) (hP : MP (M.1 (μ + 1)) A K W) {j : Nat} (hj : live A j) : fX7_of n Sh M μ (nI j) 8 = some (A j 8) := mos hL hP hj (s := 3) (by decide)
theorem mo9 (hL : ML Sh M.2.1 μ) (hP : MP (M.1 (μ + 1)) A K W) {j : Nat} (hj : live A j) : fX7_of n Sh M μ (nI j) 9 = some (A j 9) := mos hL hP hj (s := 4) (by decide)
theorem mo10 (hL : ML Sh M.2.1 μ) (hP : MP (M.1 (μ + 1)) A K W) {j : Nat} (hj : live A j) : fX7_of n Sh M μ (nI j) 10 = some (A j 3) := (m_of hL hj.1 (w := 10) (by decide)).trans (by rw [((hP j hj.1).2 hj).2.2.2.2.2.1])
theorem mo11 (hL : ML Sh M.2.1 μ) (hP : MP (M.1 (μ + 1)) A K W) {j : Nat} (hj : live A j) : fX7_of n Sh M μ (nI j) 11 = some (if A j 3 = 0 then -1 else A j 4) := (m_of hL hj.1 (w := 11) (by decide)).trans (by rw [((hP j hj.1).2 hj).2.2.2.2.2.2.1])
theorem mo12 (hL : ML Sh M.2.1 μ) (hP : MP (M.1 (μ + 1)) A K W) {j : Nat} (hj : live A j) : fX7_of n Sh M μ (nI j) 12 = some (nI (W j 0).length) := (m_of hL hj.1 (w := 12) (by decide)).trans (by rw [((hP j hj.1).2 hj).2.2.2.2.2.2.2.1])
theorem mo13 (hL : ML Sh M.2.1 μ) (hP : MP (M.1 (μ + 1)) A K W) {j : Nat} (hj : live A j) : fX7_of n Sh M μ (nI j) 13 = some (nI (W j 1).length) := (m_of hL hj.1 (w := 13) (by decide)).trans (by rw [((hP j hj.1).2 hj).2.2.2.2.2.2.2.2.1])
theorem live_nI {v : Int32} (h : ¬ v < 0) (h2 : v < 24) : ∃ j, j < 24 ∧ v = nI j := by
  obtain ⟨j, hj, e⟩ := nI_of h
  subst e
  exact ⟨j, by rw [show (24 : Int32) = nI 24 from rfl, lt_nI hj (by decide)] at h2; exact h2, rfl⟩
/-- an int that names a node -/
def isN (A : At) (v : Int32) : Prop := ∃ j, live A j ∧ v = nI j
theorem m_in (a b c : Int32) : fX7_in n Sh M a b c = some (if a < b then 0 else if a ≤ c then 1 else 0) := by
  unfold fX7_in
  by_cases h : a < b
  · rw [if_pos h, if_pos h]
  · rw [if_neg h, if_neg h]
    by_cases h2 : a ≤ c
    · rw [if_pos h2, if_pos h2]
    · rw [if_neg h2, if_neg h2]
theorem m_isNode (hL : ML Sh M.2.1 μ) (hP : MP (M.1 (μ + 1)) A K W) (v : Int32) : fX7_isNode n Sh M μ v = some (bI (isN A v)) := by
  unfold fX7_isNode
  rw [m_in]
  by_cases h0 : v < 0
  · rw [if_pos h0]
    rw [bindS, if_pos rfl, bI_neg]
    rintro ⟨j, hj, e⟩
    subst e
    exact nI_pos hj.lt h0
  · obtain ⟨j, hj, rfl⟩ := nI_of h0
    rw [if_neg h0, show (23 : Int32) = nI 23 from rfl]
    simp only [le_nI hj (show 23 < 2 ^ 31 by decide)]
    by_cases h1 : j ≤ 23
    · rw [if_pos h1]
      rw [bindS, if_neg (by decide), mo0 hL hP (by omega)]
      rw [bindS]
      by_cases hl : live A j
      · rw [i1 hl, bI_pos ⟨j, hl, rfl⟩]
      · rw [i1n hl, bI_neg]
        rintro ⟨k, hk, e⟩
        have := nI_inj hj hk.lt e
        subst this
        exact hl hk
    · rw [if_neg h1]
      rw [bindS, if_pos rfl, bI_neg]
      rintro ⟨k, hk, e⟩
      have := nI_inj hj hk.lt e
      subst this
      exact h1 (by have := hk.1; omega)
theorem rank_eq (hW : WF A K) {j p : Nat} (hj : live A j) (hp : live A p) (e : A j 1 = nI p) : rank A K j = (K p).idxOf j ∧ (K p)[rank A K j]? = some j ∧ rank A K j < 24 := by
  have h1 : rank A K j = (K p).idxOf j := by
    unfold rank
    rw [e, if_neg (nI_pos hp.lt), nI_clamp hp.lt]
  have hk := (hW.kid hj hp.1 e).2
  have h2 := get_idx hk
  refine ⟨h1, by rw [h1]; exact h2, ?_⟩
  rw [h1]
  have h3 := (List.getElem?_eq_some_iff.mp h2).1
  have h4 := nodup_le 24 (K p) (hW.2.2.2.1 p hp) (fun x hx => (hW.2.2.1 p hp x hx).1.1)
  omega
theorem kids_len (hW : WF A K) {p : Nat} (hp : live A p) : (K p).length ≤ 24 := nodup_le 24 (K p) (hW.2.2.2.1 p hp) (fun x hx => (hW.2.2.1 p hp x hx).1.1)
theorem rank_lt (hW : WF A K) {j : Nat} (hj : live A j) : rank A K j < 24 := by
  rcases hW.par hj with e | ⟨p, hp, e⟩
  · unfold rank; rw [e, if_pos (by decide)]; decide
  · exact (rank_eq hW hj hp e).2.2
theorem m_childAt (hL : ML Sh M.2.1 μ) (hP : MP (M.1 (μ + 1)) A K W) (hW : WF A K) (hn : 24 < n) {p : Nat} (hp : live A p) (v : Int32) : fX7_childAt n Sh M μ (nI p) v = some (kAt (K p) v) := by
  unfold fX7_childAt fX7_childAt_2
  obtain ⟨r, e, q⟩ := iter_inv (f := fun s => fX7_childAt_2b n Sh M μ (nI p) v s) 24 (fun j s => s = nI j ∧ ∀ i, i < j → kAt (K p) v ≠ nI i) (fun r => r = kAt (K p) v) (fun j s hj hI => by
    obtain ⟨rfl, hI⟩ := hI
    unfold fX7_childAt_2b fX7_childAt_40
    rw [show (24 : Int32) = nI 24 from rfl]
    simp only [lt_nI (show j < 2 ^ 31 by omega) (show 24 < 2 ^ 31 by decide)]
    by_cases h24 : j < 24
    · rw [if_pos h24, bind_of (mo0 hL hP h24)]
      have more : kAt (K p) v ≠ nI j → ∀ i, i < j + 1 → kAt (K p) v ≠ nI i := fun hx i hi => by
        by_cases e : i = j
        · rw [e]; exact hx
        · exact hI i (by omega)
      have need : kAt (K p) v = nI j → live A j ∧ A j 1 = nI p ∧ nI (rank A K j) = v := fun hx => by
        unfold kAt at hx
        by_cases hv : v < 0
        · rw [if_pos hv] at hx; exact absurd hx.symm (nI_ne_neg (by omega))
        · rw [if_neg hv] at hx
          obtain ⟨r, hr, rfl⟩ := nI_of hv
          rw [nI_clamp hr] at hx
          cases hg : (K p)[r]? with
          | none => rw [hg] at hx; exact absurd hx.symm (nI_ne_neg (by omega))
          | some k =>
            rw [hg] at hx
            have hk := List.mem_of_getElem? hg
            obtain ⟨h1, h2⟩ := hW.2.2.1 p hp k hk
            have : k = j := nI_inj h1.lt (by omega) hx
            subst this
            exact ⟨h1, h2, by rw [(rank_eq hW h1 hp h2).1, idx_get (hW.2.2.2.1 p hp) hg]⟩
      by_cases hl : live A j
      · rw [i1 hl, bind_of (mo1 hL hP hl)]
        by_cases hpar : A j 1 = nI p
        · rw [if_pos hpar, bind_of (mo2 hL hP hl)]
          by_cases hr : nI (rank A K j) = v
          · rw [if_pos hr]
            refine Or.inr ⟨_, rfl, ?_⟩
            obtain ⟨-, h2, h3⟩ := rank_eq hW hl hp hpar
            subst hr
            unfold kAt
            rw [if_neg (nI_pos (by omega)), nI_clamp (by omega), h2]
            rfl
          · rw [if_neg hr]
            exact Or.inl ⟨h24, _, rfl, nI_add1 j, more (fun z => hr (need z).2.2)⟩
        · rw [if_neg hpar]
          exact Or.inl ⟨h24, _, rfl, nI_add1 j, more (fun z => hpar (need z).2.1)⟩
      · rw [i1n hl]
        exact Or.inl ⟨h24, _, rfl, nI_add1 j, more (fun z => hl (need z).1)⟩
    · rw [if_neg h24]
      refine Or.inr ⟨_, rfl, ?_⟩
      unfold kAt at hI ⊢
      by_cases hv : v < 0
      · rw [if_pos hv]
      · rw [if_neg hv] at hI ⊢
        cases hg : (K p)[v.toNatClampNeg]? with
        | none => rfl
        | some k =>
          rw [hg] at hI
          have hk := (hW.2.2.1 p hp k (List.mem_of_getElem? hg)).1
          exact absurd rfl (hI k (by have := hk.1; omega))) hn (s := 0) ⟨rfl, fun i hi => absurd hi (Nat.not_lt_zero i)⟩
  rw [e, q]
theorem m_childMany (hL : ML Sh M.2.1 μ) (hP : MP (M.1 (μ + 1)) A K W) (hW : WF A K) (hn : 24 < n) {p : Nat} (hp : live A p) : fX7_childMany n Sh M μ (nI p) = some (nI (K p).length) := by
  unfold fX7_childMany fX7_childMany_4
  have hlen := kids_len hW hp
  have hall : (K p).filter (fun x => decide (x < 24)) = K p := List.filter_eq_self.mpr (fun x hx => decide_eq_true (hW.2.2.1 p hp x hx).1.1)
  refine iter_seq (N := 24) (fun j => (nI ((K p).filter (fun x => decide (x < j))).length, nI j)) (fun j hj => ?_) ?_ hn (by rw [List.filter_eq_nil_iff.mpr (fun x _ => by simp)]; rfl)
  · unfold fX7_childMany_4b fX7_childMany_35 fX7_childMany_36
    rw [show (24 : Int32) = nI 24 from rfl]
    simp only [lt_nI (show j < 2 ^ 31 by omega) (show 24 < 2 ^ 31 by decide)]
    rw [if_pos hj, bind_of (mo0 hL hP hj)]
    rw [filt_len (K p) (hW.2.2.2.1 p hp) j]
    by_cases hl : live A j
    · rw [i1 hl, bind_of (mo1 hL hP hl)]
      by_cases hpar : A j 1 = nI p
      · rw [if_pos hpar, if_pos (hW.kid hl hp.1 hpar).2, nI_add1, nI_add1]
      · rw [if_neg hpar, if_neg (fun z => hpar (hW.2.2.1 p hp j z).2), nI_add1, Int32.add_zero]
        rfl
    · rw [i1n hl, if_neg (fun z => hl (hW.2.2.1 p hp j z).1), nI_add1, Int32.add_zero]
      rfl
  · unfold fX7_childMany_4b
    rw [show (24 : Int32) = nI 24 from rfl]
    simp only [lt_nI (show 24 < 2 ^ 31 by decide) (show 24 < 2 ^ 31 by decide)]
    rw [if_neg (Nat.lt_irrefl 24), hall]
end MREAD
