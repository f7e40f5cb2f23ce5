/-! ===== LEVEL 2: walks over the tree ===== -/
/-- own words of a node, and those of its children where it opens up -/
def tv {α : Type} (K : Kt) (own : Nat → List α) (ds : Nat → Bool) : Nat → Nat → List α
  | 0, _ => []
  | f + 1, n => own n ++ (if ds n then (K n).flatMap (tv K own ds f) else [])
def trav {α : Type} (K : Kt) (own : Nat → List α) (ds : Nat → Bool) (n : Nat) : List α := tv K own ds 24 n
def pre (K : Kt) (n : Nat) : List Nat := trav K (fun k => [k]) (fun _ => true) n
theorem flatMap_cong {α β : Type} {f g : α → List β} : ∀ (L : List α), (∀ k ∈ L, f k = g k) → L.flatMap f = L.flatMap g := by
  intro L
  induction L with
  | nil => intro _; rfl
  | cons a L ih =>
    intro h
    rw [List.flatMap_cons, List.flatMap_cons, h a List.mem_cons_self, ih (fun k hk => h k (List.mem_cons_of_mem _ hk))]
section TRAV
variable {A : At} {K : Kt} {α : Type} {own : Nat → List α} {ds : Nat → Bool}
theorem tv_stable (h : WF A K) : ∀ f g n, live A n → 25 ≤ f + dp A n → 25 ≤ g + dp A n → tv K own ds f n = tv K own ds g n := by
  intro f
  induction f with
  | zero => intro g n hn hf hg; have := (dp_le h hn).2; omega
  | succ f ih =>
    intro g n hn hf hg
    have hd := dp_le h hn
    obtain ⟨g', rfl⟩ : ∃ m, g = m + 1 := ⟨g - 1, by omega⟩
    unfold tv
    have : (K n).flatMap (tv K own ds f) = (K n).flatMap (tv K own ds g') := by
      apply flatMap_cong
      intro k hk
      have := dp_kid h hn hk
      exact ih g' k (h.2.2.1 n hn k hk).1 (by omega) (by omega)
    rw [this]
theorem trav_tv (h : WF A K) {n f : Nat} (hn : live A n) (hf : 25 ≤ f + dp A n) : tv K own ds f n = trav K own ds n := tv_stable h _ _ n hn hf (by have := dp_le h hn; omega)
theorem trav_eq (h : WF A K) {n : Nat} (hn : live A n) : trav K own ds n = own n ++ (if ds n then (K n).flatMap (trav K own ds) else []) := by
  have h1 := dp_le h hn
  have e : trav K own ds n = own n ++ (if ds n then (K n).flatMap (tv K own ds 23) else []) := rfl
  rw [e]
  have : (K n).flatMap (tv K own ds 23) = (K n).flatMap (trav K own ds) := by
    apply flatMap_cong
    intro k hk
    have := dp_kid h hn hk
    exact trav_tv h (h.2.2.1 n hn k hk).1 (by omega)
  rw [this]
theorem pre_eq (h : WF A K) {n : Nat} (hn : live A n) : pre K n = n :: (K n).flatMap (pre K) := by
  unfold pre
  rw [trav_eq h hn, if_pos rfl]
  rfl
/-- induction from the leaves up -/
theorem down_ind (h : WF A K) (P : Nat → Prop) (h1 : ∀ n, live A n → (∀ k ∈ K n, live A k → P k) → P n) : ∀ n, live A n → P n := by
  have key : ∀ m n, live A n → 24 - dp A n = m → P n := by
    intro m
    induction m with
    | zero =>
      intro n hn hm
      refine h1 n hn (fun k hk hl => ?_)
      have := dp_kid h hn hk
      have := dp_le h hl
      omega
    | succ m ih =>
      intro n hn hm
      refine h1 n hn (fun k hk hl => ih k hl ?_)
      have := dp_kid h hn hk
      omega
  exact fun n hn => key _ n hn rfl
theorem pre_live (h : WF A K) : ∀ n, live A n → ∀ x ∈ pre K n, live A x := by
  refine down_ind h _ (fun n hn ih x hx => ?_)
  rw [pre_eq h hn] at hx
  rcases List.mem_cons.mp hx with e | hx
  · subst e; exact hn
  · obtain ⟨k, hk, hx⟩ := List.mem_flatMap.mp hx
    exact ih k hk (h.2.2.1 n hn k hk).1 x hx
theorem pre_chain (h : WF A K) : ∀ n, live A n → ∀ x ∈ pre K n, n ∈ chain A (nI x) := by
  refine down_ind h _ (fun n hn ih x hx => ?_)
  have hxl := pre_live h n hn x hx
  rw [pre_eq h hn] at hx
  rcases List.mem_cons.mp hx with e | hx
  · subst e; rw [chain_cons h hn]; exact List.mem_cons_self
  · obtain ⟨k, hk, hx⟩ := List.mem_flatMap.mp hx
    obtain ⟨hl, e⟩ := h.2.2.1 n hn k hk
    exact chain_up h (Or.inr ⟨x, hxl, rfl⟩) (ih k hk hl x hx) hn e
/-- subtrees of twins at one depth share nothing -/
theorem pre_nodup (h : WF A K) : ∀ n, live A n → (pre K n).Nodup := by
  have fl : ∀ (c : Nat) (L : List Nat), L.Nodup → (∀ k ∈ L, live A k ∧ dp A k = c ∧ (pre K k).Nodup) → (L.flatMap (pre K)).Nodup := by
    intro c L
    induction L with
    | nil => intro _ _; exact List.nodup_nil
    | cons a L ih =>
      intro hn hL
      rw [List.flatMap_cons]
      obtain ⟨hna, hnL⟩ := List.nodup_cons.mp hn
      refine List.nodup_append.mpr ⟨(hL a List.mem_cons_self).2.2, ih hnL (fun k hk => hL k (List.mem_cons_of_mem _ hk)), ?_⟩
      intro x hx y hy e
      subst e
      obtain ⟨k, hk, hy⟩ := List.mem_flatMap.mp hy
      have h1 := hL a List.mem_cons_self
      have h2 := hL k (List.mem_cons_of_mem _ hk)
      have hxl := pre_live h a h1.1 x hx
      have e : a = k := chain_same h (Or.inr ⟨x, hxl, rfl⟩) (pre_chain h a h1.1 x hx) (pre_chain h k h2.1 x hy) (by rw [h1.2.1, h2.2.1])
      subst e
      exact hna hk
  refine down_ind h _ (fun n hn ih => ?_)
  rw [pre_eq h hn]
  refine List.nodup_cons.mpr ⟨fun hx => ?_, fl (dp A n + 1) (K n) (h.2.2.2.1 n hn) (fun k hk => ⟨(h.2.2.1 n hn k hk).1, dp_kid h hn hk, ih k hk (h.2.2.1 n hn k hk).1⟩)⟩
  obtain ⟨k, hk, hx⟩ := List.mem_flatMap.mp hx
  have hkl := (h.2.2.1 n hn k hk).1
  have h1 := pre_chain h k hkl n hx
  have h2 : n ∈ chain A (nI n) := by rw [chain_cons h hn]; exact List.mem_cons_self
  obtain ⟨l, e⟩ := chain_suffix h _ (Or.inr ⟨n, hn, rfl⟩) k h1
  have : dp A n = l.length + dp A k := by unfold dp; rw [e, List.length_append]
  have := dp_kid h hn hk
  omega
theorem flat_nodup (h : WF A K) (c : Nat) : ∀ (L : List Nat), L.Nodup → (∀ k ∈ L, live A k ∧ dp A k = c) → (L.flatMap (pre K)).Nodup := by
  intro L
  induction L with
  | nil => intro _ _; exact List.nodup_nil
  | cons a L ih =>
    intro hn hL
    rw [List.flatMap_cons]
    obtain ⟨hna, hnL⟩ := List.nodup_cons.mp hn
    refine List.nodup_append.mpr ⟨pre_nodup h a (hL a List.mem_cons_self).1, ih hnL (fun k hk => hL k (List.mem_cons_of_mem _ hk)), ?_⟩
    intro x hx y hy e
    subst e
    obtain ⟨k, hk, hy⟩ := List.mem_flatMap.mp hy
    have h1 := hL a List.mem_cons_self
    have h2 := hL k (List.mem_cons_of_mem _ hk)
    have hxl := pre_live h a h1.1 x hx
    have e : a = k := chain_same h (Or.inr ⟨x, hxl, rfl⟩) (pre_chain h a h1.1 x hx) (pre_chain h k h2.1 x hy) (by rw [h1.2, h2.2])
    subst e
    exact hna hk
theorem flat_len (h : WF A K) (c : Nat) (L : List Nat) (hn : L.Nodup) (hL : ∀ k ∈ L, live A k ∧ dp A k = c) : (L.flatMap (pre K)).length ≤ 24 := nodup_le 24 _ (flat_nodup h c L hn hL) (fun x hx => by
  obtain ⟨k, hk, hx⟩ := List.mem_flatMap.mp hx
  exact (pre_live h k (hL k hk).1 x hx).1)
theorem pre_len (h : WF A K) {n : Nat} (hn : live A n) : (pre K n).length ≤ 24 := nodup_le 24 _ (pre_nodup h n hn) (fun x hx => (pre_live h n hn x hx).1)
theorem flat_mono (L : List Nat) {f : Nat → List α} {g : Nat → List Nat} (h : ∀ k ∈ L, (f k).length ≤ (g k).length) : (L.flatMap f).length ≤ (L.flatMap g).length := by
  induction L with
  | nil => exact Nat.le_refl 0
  | cons a L ih =>
    rw [List.flatMap_cons, List.flatMap_cons, List.length_append, List.length_append]
    exact Nat.add_le_add (h a List.mem_cons_self) (ih (fun k hk => h k (List.mem_cons_of_mem _ hk)))
/-- no more words than nodes -/
theorem trav_len (h : WF A K) (ho : ∀ k, (own k).length ≤ 1) : ∀ n, live A n → (trav K own ds n).length ≤ (pre K n).length := by
  refine down_ind h _ (fun n hn ih => ?_)
  rw [pre_eq h hn, trav_eq h hn, List.length_append, List.length_cons]
  have h1 : (if ds n then (K n).flatMap (trav K own ds) else []).length ≤ ((K n).flatMap (pre K)).length := by
    by_cases hd : ds n = true
    · rw [if_pos hd]
      exact flat_mono _ (fun k hk => ih k hk (h.2.2.1 n hn k hk).1)
    · rw [if_neg hd]; exact Nat.zero_le _
  have := ho n
  omega
theorem pre_all (h : WF A K) : ∀ n, live A n → ∀ x ∈ K n, x ∈ pre K n := by
  intro n hn x hx
  rw [pre_eq h hn]
  refine List.mem_cons_of_mem _ (List.mem_flatMap.mpr ⟨x, hx, ?_⟩)
  rw [pre_eq h (h.2.2.1 n hn x hx).1]
  exact List.mem_cons_self
/-- the nodes that are left behind a node, within a subtree, as the roots of their own -/
def pdF (A : At) (K : Kt) (top : Nat) : Nat → Nat → List Nat
  | 0, _ => []
  | f + 1, n => if n = top then [] else (K (A n 1).toNatClampNeg).drop ((K (A n 1).toNatClampNeg).idxOf n + 1) ++ pdF A K top f (A n 1).toNatClampNeg
def pend (A : At) (K : Kt) (top n : Nat) : List Nat := pdF A K top 25 n
/-- n lies in the subtree of top -/
def inT (A : At) (top n : Nat) : Prop := live A n ∧ top ∈ chain A (nI n)
theorem inT_par (h : WF A K) {top n : Nat} (hn : inT A top n) (hne : n ≠ top) : ∃ p, live A p ∧ A n 1 = nI p ∧ n ∈ K p ∧ inT A top p := by
  obtain ⟨hl, hc⟩ := hn
  rw [chain_cons h hl] at hc
  rcases List.mem_cons.mp hc with e | hc
  · exact absurd e.symm hne
  · rcases h.par hl with e | ⟨p, hp, e⟩
    · rw [e, chain_neg (by decide)] at hc; exact absurd hc List.not_mem_nil
    · exact ⟨p, hp, e, (h.kid hl hp.1 e).2, hp, by rw [← e]; exact hc⟩
theorem inT_kid (h : WF A K) {top p k : Nat} (hp : inT A top p) (hk : k ∈ K p) : inT A top k ∧ k ≠ top := by
  obtain ⟨hl, e⟩ := h.2.2.1 p hp.1 k hk
  have hc : chain A (nI k) = k :: chain A (nI p) := by rw [chain_cons h hl, e]
  refine ⟨⟨hl, by rw [hc]; exact List.mem_cons_of_mem _ hp.2⟩, fun z => ?_⟩
  subst z
  have := chain_nodup h (Or.inr ⟨k, hl, rfl⟩)
  rw [hc] at this
  exact (List.nodup_cons.mp this).1 hp.2
theorem pdF_stable (h : WF A K) {top : Nat} : ∀ f g n, inT A top n → dp A n < f → dp A n < g → pdF A K top f n = pdF A K top g n := by
  intro f
  induction f with
  | zero => intro g n _ hz; exact absurd hz (Nat.not_lt_zero _)
  | succ f ih =>
    intro g n hn hf hg
    obtain ⟨g', rfl⟩ : ∃ m, g = m + 1 := ⟨g - 1, by omega⟩
    unfold pdF
    by_cases ht : n = top
    · rw [if_pos ht, if_pos ht]
    · rw [if_neg ht, if_neg ht]
      obtain ⟨p, hp, e, hk, hT⟩ := inT_par h hn ht
      have := dp_kid h hp hk
      rw [e, nI_clamp hp.lt, ih g' p hT (by omega) (by omega)]
theorem pend_top {n : Nat} : pend A K n n = [] := if_pos rfl
theorem pend_eq (h : WF A K) {top n p : Nat} (hn : inT A top n) (ht : n ≠ top) (hp : live A p) (e : A n 1 = nI p) : pend A K top n = (K p).drop ((K p).idxOf n + 1) ++ pend A K top p := by
  obtain ⟨p', hp', e', hk, hT⟩ := inT_par h hn ht
  have : p' = p := nI_inj hp'.lt hp.lt (e'.symm.trans e)
  subst this
  have h1 := dp_kid h hp hk
  have h2 := dp_le h hn.1
  have e1 : pend A K top n = (K (A n 1).toNatClampNeg).drop ((K (A n 1).toNatClampNeg).idxOf n + 1) ++ pdF A K top 24 (A n 1).toNatClampNeg := if_neg ht
  rw [e1, e, nI_clamp hp.lt, pdF_stable h 24 25 p' hT (by omega) (by omega)]
  rfl
theorem idx_drop {l : List Nat} (hl : l.Nodup) : ∀ {r k : Nat} {ks : List Nat}, l.drop r = k :: ks → l.idxOf k = r ∧ l.drop (r + 1) = ks := by
  induction l with
  | nil => intro r k ks e; rw [List.drop_nil] at e; cases e
  | cons a l ih =>
    intro r k ks e
    obtain ⟨ha, hl'⟩ := List.nodup_cons.mp hl
    cases r with
    | zero =>
      rw [List.drop_zero] at e
      obtain ⟨e1, e2⟩ := List.cons.inj e
      subst e1; subst e2
      exact ⟨by simp, rfl⟩
    | succ r =>
      rw [List.drop_succ_cons] at e
      obtain ⟨h1, h2⟩ := ih hl' e
      refine ⟨?_, by rw [List.drop_succ_cons]; exact h2⟩
      have hk : k ∈ l := List.mem_of_mem_drop (by rw [e]; exact List.mem_cons_self)
      have hne : a ≠ k := fun z => by subst z; exact ha hk
      rw [List.idxOf_cons, show (a == k) = false from beq_false_of_ne hne, h1]
      rfl
theorem drop_step {l : List Nat} {r k : Nat} {ks : List Nat} (e : l.drop r = k :: ks) : l.drop (r + 1) = ks ∧ k ∈ l := by
  refine ⟨?_, List.mem_of_mem_drop (i := r) (by rw [e]; exact List.mem_cons_self)⟩
  have : l.drop (r + 1) = (l.drop r).drop 1 := by rw [List.drop_drop]
  rw [this, e]
  rfl
/-- what is left behind the next one is the rest -/
theorem pend_next (h : WF A K) {top : Nat} : ∀ n, inT A top n → ∀ y ys, pend A K top n = y :: ys → inT A top y ∧ pend A K top y = ys := by
  have key : ∀ m n, dp A n = m → inT A top n → ∀ y ys, pend A K top n = y :: ys → inT A top y ∧ pend A K top y = ys := by
    intro m
    induction m with
    | zero => intro n hm hn; have := dp_le h hn.1; omega
    | succ m ih =>
      intro n hm hn y ys e
      by_cases ht : n = top
      · subst ht; rw [pend_top] at e; cases e
      · obtain ⟨p, hp, e1, hk, hT⟩ := inT_par h hn ht
        rw [pend_eq h hn ht hp e1] at e
        cases hd : (K p).drop ((K p).idxOf n + 1) with
        | nil =>
          rw [hd] at e
          have := dp_kid h hp hk
          exact ih p (by omega) hT y ys e
        | cons a as =>
          rw [hd] at e
          obtain ⟨e2, e3⟩ := List.cons.inj e
          subst e2
          obtain ⟨i1, i2⟩ := idx_drop (h.2.2.2.1 p hp) hd
          obtain ⟨d1, d2⟩ := drop_step hd
          obtain ⟨hTa, hne⟩ := inT_kid h hT d2
          refine ⟨hTa, ?_⟩
          rw [pend_eq h hTa hne hp (h.2.2.1 p hp a d2).2, i1, i2]
          exact e3
  exact fun n hn => key _ n rfl hn
theorem pend_kid (h : WF A K) {top n k : Nat} {ks : List Nat} (hn : inT A top n) (e : K n = k :: ks) : inT A top k ∧ pend A K top k = ks ++ pend A K top n := by
  have hk : k ∈ K n := by rw [e]; exact List.mem_cons_self
  obtain ⟨hT, hne⟩ := inT_kid h hn hk
  refine ⟨hT, ?_⟩
  rw [pend_eq h hT hne hn.1 (h.2.2.1 n hn.1 k hk).2, e]
  simp
theorem pend_live (h : WF A K) {top n : Nat} (hn : inT A top n) : ∀ x ∈ pend A K top n, live A x := by
  have key : ∀ m n, dp A n = m → inT A top n → ∀ x ∈ pend A K top n, live A x := by
    intro m
    induction m with
    | zero => intro n hm hn; have := dp_le h hn.1; omega
    | succ m ih =>
      intro n hm hn x hx
      by_cases ht : n = top
      · subst ht; rw [pend_top] at hx; exact absurd hx List.not_mem_nil
      · obtain ⟨p, hp, e1, hk, hT⟩ := inT_par h hn ht
        rw [pend_eq h hn ht hp e1] at hx
        rcases List.mem_append.mp hx with hx | hx
        · exact (h.2.2.1 p hp x (List.mem_of_mem_drop hx)).1
        · have := dp_kid h hp hk
          exact ih p (by omega) hT x hx
  exact key _ n rfl hn
end TRAV
