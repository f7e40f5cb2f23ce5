/-! ===== LEVEL 2: loops with an invariant; the tree as it is meant ===== -/
theorem iter_inv {σ ρ : Type} {f : σ → Option (σ ⊕ ρ)} (N : Nat) (Inv : Nat → σ → Prop) (Q : ρ → Prop) (step : ∀ j s, j ≤ N → Inv j s → (j < N ∧ ∃ s', f s = some (.inl s') ∧ Inv (j + 1) s') ∨ (∃ r, f s = some (.inr r) ∧ Q r)) {n : Nat} (hn : N < n) {s : σ} (h0 : Inv 0 s) : ∃ r, iter n f s = some r ∧ Q r := by
  have key : ∀ (m j n : Nat) (s : σ), j + m = N → m < n → Inv j s → ∃ r, iter n f s = some r ∧ Q r := by
    intro m
    induction m with
    | zero =>
      intro j n s hj hn hI
      rcases step j s (by omega) hI with ⟨h, -⟩ | ⟨r, e, q⟩
      · omega
      · exact ⟨r, iter_end' (by omega) e, q⟩
    | succ m ih =>
      intro j n s hj hn hI
      rcases step j s (by omega) hI with ⟨h, s', e, hI'⟩ | ⟨r, e, q⟩
      · obtain ⟨r, e', q⟩ := ih (j + 1) (n - 1) s' (by omega) (by omega) hI'
        exact ⟨r, (iter_go' (by omega) e).trans e', q⟩
      · exact ⟨r, iter_end' (by omega) e, q⟩
  exact key N 0 n s (by omega) (by omega) h0
theorem iter_seq {σ ρ : Type} {f : σ → Option (σ ⊕ ρ)} {N n : Nat} (s : Nat → σ) {r : ρ} (hs : ∀ j, j < N → f (s j) = some (.inl (s (j + 1)))) (he : f (s N) = some (.inr r)) (hn : N < n) {s0 : σ} (h0 : s0 = s 0) : iter n f s0 = some r := by
  obtain ⟨r', e, q⟩ := iter_inv (f := f) N (fun j x => x = s j) (fun x => x = r) (fun j x hj hx => by
    subst hx
    by_cases h : j < N
    · exact Or.inl ⟨h, s (j + 1), hs j h, rfl⟩
    · have : j = N := by omega
      subst this
      exact Or.inr ⟨r, he, rfl⟩) hn h0
  rw [e, q]
/-- a truth as an int -/
noncomputable def bI (P : Prop) : Int32 := @ite _ P (Classical.propDecidable P) 1 0
theorem bI_pos {P : Prop} (h : P) : bI P = 1 := if_pos h
theorem bI_neg {P : Prop} (h : ¬ P) : bI P = 0 := if_neg h
theorem bI_eq0 {P : Prop} : (bI P = 0) = ¬ P := by
  by_cases h : P
  · rw [bI_pos h]; exact propext ⟨fun z => absurd z (by decide), fun z => absurd h z⟩
  · rw [bI_neg h]; exact propext ⟨fun _ => h, fun _ => rfl⟩
theorem bI_eq1 {P : Prop} : (bI P = 1) = P := by
  by_cases h : P
  · rw [bI_pos h]; exact propext ⟨fun _ => h, fun _ => rfl⟩
  · rw [bI_neg h]; exact propext ⟨fun z => absurd z (by decide), fun z => absurd z h⟩
theorem bI_congr {P Q : Prop} (h : P ↔ Q) : bI P = bI Q := by rw [propext h]
theorem bI_bit (P : Prop) : bI P = 0 ∨ bI P = 1 := by
  by_cases h : P
  · exact Or.inr (bI_pos h)
  · exact Or.inl (bI_neg h)
theorem bI_ite {P : Prop} [Decidable P] : (if P then (1 : Int32) else 0) = bI P := by
  by_cases h : P
  · rw [if_pos h, bI_pos h]
  · rw [if_neg h, bI_neg h]
theorem bI_ite' {P : Prop} [Decidable P] : (if P then (0 : Int32) else 1) = bI (¬ P) := by
  by_cases h : P
  · rw [if_pos h, bI_neg (fun z => z h)]
  · rw [if_neg h, bI_pos h]
def oi : Option Nat → Int32
  | none => -1
  | some j => nI j
theorem nI_inj {a b : Nat} (ha : a < 2 ^ 31) (hb : b < 2 ^ 31) (h : nI a = nI b) : a = b := (nI_eq ha hb).mp h
/-- a list without twins, below N, is no longer than N -/
theorem nodup_le : ∀ (N : Nat) (l : List Nat), l.Nodup → (∀ x ∈ l, x < N) → l.length ≤ N := by
  intro N
  induction N with
  | zero =>
    intro l _ h
    cases l with
    | nil => exact Nat.le_refl 0
    | cons a l => exact absurd (h a List.mem_cons_self) (Nat.not_lt_zero a)
  | succ N ih =>
    intro l hn h
    by_cases hm : N ∈ l
    · have h1 := ih (l.erase N) (hn.erase N) (fun x hx => by
        have hx1 := List.mem_of_mem_erase hx
        have hx2 : x ≠ N := fun e => by subst e; exact hn.not_mem_erase hx
        have := h x hx1
        omega)
      have h2 := List.length_erase_of_mem hm
      omega
    · exact Nat.le_succ_of_le (ih l hn (fun x hx => by
        have hx2 : x ≠ N := fun e => by subst e; exact hm hx
        have := h x hx
        omega))
abbrev At : Type := Nat → Nat → Int32
abbrev Kt : Type := Nat → List Nat
abbrev Wt : Type := Nat → Nat → List Int32
def live (A : At) (n : Nat) : Prop := n < 24 ∧ A n 0 ≠ -1
/-- a node or none -/
def orN (A : At) (v : Int32) : Prop := v = -1 ∨ ∃ p, live A p ∧ v = nI p
def WF (A : At) (K : Kt) : Prop := (live A 0 ∧ A 0 1 = -1) ∧ (∀ n, live A n → n ≠ 0 → ∃ p, live A p ∧ A n 1 = nI p ∧ n ∈ K p) ∧ (∀ p, live A p → ∀ k ∈ K p, live A k ∧ A k 1 = nI p) ∧ (∀ p, live A p → (K p).Nodup) ∧ ∃ d : Nat → Nat, ∀ p, live A p → ∀ k ∈ K p, d k = d p + 1
def chF (A : At) : Nat → Int32 → List Nat
  | 0, _ => []
  | f + 1, v => if v < 0 then [] else v.toNatClampNeg :: chF A f (A v.toNatClampNeg 1)
/-- a node and those above it -/
def chain (A : At) (v : Int32) : List Nat := chF A 25 v
section TREE
variable {A : At} {K : Kt}
theorem live.lt {n : Nat} (h : live A n) : n < 2 ^ 31 := by have := h.1; omega
theorem WF.par (h : WF A K) {n : Nat} (hn : live A n) : orN A (A n 1) := by
  by_cases h0 : n = 0
  · subst h0; exact Or.inl h.1.2
  · obtain ⟨p, hp, e, -⟩ := h.2.1 n hn h0
    exact Or.inr ⟨p, hp, e⟩
theorem WF.kid (h : WF A K) {n p : Nat} (hn : live A n) (hp : p < 24) (e : A n 1 = nI p) : live A p ∧ n ∈ K p := by
  have h0 : n ≠ 0 := fun z => by
    subst z
    rw [h.1.2] at e
    exact nI_ne_neg (by omega) e.symm
  obtain ⟨q, hq, e', hk⟩ := h.2.1 n hn h0
  have : p = q := nI_inj (by omega) hq.lt (e.symm.trans e')
  subst this
  exact ⟨hq, hk⟩
theorem chF_neg {f : Nat} {v : Int32} (h : v < 0) : chF A f v = [] := by
  cases f with
  | zero => rfl
  | succ f => exact if_pos h
theorem chF_nI {f j : Nat} (h : j < 2 ^ 31) : chF A (f + 1) (nI j) = j :: chF A f (A j 1) := by
  show (if nI j < 0 then [] else _) = _
  rw [if_neg (nI_pos h), nI_clamp h]
theorem chF_live (h : WF A K) : ∀ f v, orN A v → ∀ x ∈ chF A f v, live A x := by
  intro f
  induction f with
  | zero => intro v _ x hx; exact absurd hx List.not_mem_nil
  | succ f ih =>
    intro v hv x hx
    rcases hv with e | ⟨p, hp, e⟩
    · subst e; rw [chF_neg (by decide)] at hx; exact absurd hx List.not_mem_nil
    · subst e
      rw [chF_nI hp.lt] at hx
      rcases List.mem_cons.mp hx with e | hx
      · subst e; exact hp
      · exact ih _ (h.par hp) x hx
theorem chF_depth (h : WF A K) {d : Nat → Nat} (hd : ∀ p, live A p → ∀ k ∈ K p, d k = d p + 1) : ∀ f n, live A n → ∀ x ∈ chF A f (A n 1), d x < d n := by
  intro f
  induction f with
  | zero => intro n _ x hx; exact absurd hx List.not_mem_nil
  | succ f ih =>
    intro n hn x hx
    rcases h.par hn with e | ⟨p, hp, e⟩
    · rw [e, chF_neg (by decide)] at hx; exact absurd hx List.not_mem_nil
    · rw [e, chF_nI hp.lt] at hx
      have h1 := hd p hp n (h.kid hn hp.1 e).2
      rcases List.mem_cons.mp hx with e | hx
      · subst e; omega
      · have := ih p hp x hx
        omega
theorem chF_nodup (h : WF A K) : ∀ f v, orN A v → (chF A f v).Nodup := by
  obtain ⟨d, hd⟩ := h.2.2.2.2
  intro f
  induction f with
  | zero => intro v _; exact List.nodup_nil
  | succ f ih =>
    intro v hv
    rcases hv with e | ⟨p, hp, e⟩
    · subst e; rw [chF_neg (by decide)]; exact List.nodup_nil
    · subst e
      rw [chF_nI hp.lt]
      exact List.nodup_cons.mpr ⟨fun hx => Nat.lt_irrefl _ (chF_depth h hd f p hp p hx), ih _ (h.par hp)⟩
theorem chF_len (h : WF A K) (f : Nat) {v : Int32} (hv : orN A v) : (chF A f v).length ≤ 24 := nodup_le 24 _ (chF_nodup h f v hv) (fun x hx => (chF_live h f v hv x hx).1)
theorem chF_stable : ∀ f g v, (chF A f v).length < f → f ≤ g → chF A g v = chF A f v := by
  intro f
  induction f with
  | zero => intro g v h; exact absurd h (Nat.not_lt_zero _)
  | succ f ih =>
    intro g v h hg
    obtain ⟨g', rfl⟩ : ∃ m, g = m + 1 := ⟨g - 1, by omega⟩
    unfold chF at h ⊢
    by_cases hv : v < 0
    · rw [if_pos hv, if_pos hv]
    · rw [if_neg hv] at h ⊢
      rw [if_neg hv]
      rw [List.length_cons] at h
      rw [ih g' _ (by omega) (by omega)]
theorem chain_eq (h : WF A K) {f : Nat} {v : Int32} (hv : orN A v) (hf : (chain A v).length < f) : chF A f v = chain A v := by
  have h25 := chF_len h 25 hv
  unfold chain at hf ⊢
  by_cases hg : 25 ≤ f
  · exact chF_stable 25 f v (by omega) hg
  · have key : ∀ f v, (chF A 25 v).length < f → f ≤ 25 → (chF A f v).length < f := by
      have gen : ∀ f g v, f ≤ g → (chF A g v).length < f → (chF A f v).length < f := by
        intro f
        induction f with
        | zero => intro g v _ hz; exact absurd hz (Nat.not_lt_zero _)
        | succ f ih =>
          intro g v hg hz
          obtain ⟨g', rfl⟩ : ∃ m, g = m + 1 := ⟨g - 1, by omega⟩
          unfold chF at hz ⊢
          by_cases hv : v < 0
          · rw [if_pos hv]; exact Nat.succ_pos f
          · rw [if_neg hv] at hz ⊢
            rw [List.length_cons] at hz ⊢
            have := ih g' _ (by omega) (Nat.lt_of_succ_lt_succ hz)
            omega
      intro f v hz hf
      exact gen f 25 v hf hz
    exact (chF_stable f 25 v (key f v hf (by omega)) (by omega)).symm
theorem chain_neg {v : Int32} (h : v < 0) : chain A v = [] := chF_neg h
theorem chain_len (h : WF A K) {v : Int32} (hv : orN A v) : (chain A v).length ≤ 24 := chF_len h 25 hv
theorem chain_cons (h : WF A K) {n : Nat} (hn : live A n) : chain A (nI n) = n :: chain A (A n 1) := by
  have e : chain A (nI n) = n :: chF A 24 (A n 1) := chF_nI hn.lt
  have hl := chF_len h 25 (Or.inr ⟨n, hn, rfl⟩)
  have e' : chF A 25 (nI n) = n :: chF A 24 (A n 1) := e
  rw [e', List.length_cons] at hl
  have e2 : chF A 25 (A n 1) = chF A 24 (A n 1) := chF_stable 24 25 (A n 1) (by omega) (by omega)
  rw [e]
  unfold chain
  rw [e2]
theorem chain_live (h : WF A K) {v : Int32} (hv : orN A v) {x : Nat} (hx : x ∈ chain A v) : live A x := chF_live h 25 v hv x hx
theorem chain_nodup (h : WF A K) {v : Int32} (hv : orN A v) : (chain A v).Nodup := chF_nodup h 25 v hv
/-- induction along the chain -/
theorem chain_ind (h : WF A K) (P : Int32 → Prop) (h0 : P (-1)) (h1 : ∀ n, live A n → P (A n 1) → P (nI n)) : ∀ v, orN A v → P v := by
  have key : ∀ m v, orN A v → (chain A v).length = m → P v := by
    intro m
    induction m with
    | zero =>
      intro v hv hl
      rcases hv with e | ⟨p, hp, e⟩
      · rw [e]; exact h0
      · rw [e, chain_cons h hp] at hl; exact absurd hl (Nat.succ_ne_zero _)
    | succ m ih =>
      intro v hv hl
      rcases hv with e | ⟨p, hp, e⟩
      · rw [e]; exact h0
      · rw [e]
        rw [e, chain_cons h hp, List.length_cons] at hl
        exact h1 p hp (ih _ (h.par hp) (by omega))
  exact fun v hv => key _ v hv rfl
theorem chain_suffix (h : WF A K) : ∀ v, orN A v → ∀ k ∈ chain A v, ∃ l, chain A v = l ++ chain A (nI k) := by
  refine chain_ind h _ (fun k hk => ?_) (fun n hn ih k hk => ?_)
  · rw [chain_neg (by decide)] at hk; exact absurd hk List.not_mem_nil
  · rw [chain_cons h hn] at hk ⊢
    rcases List.mem_cons.mp hk with e | hk
    · subst e; exact ⟨[], by rw [chain_cons h hn]; rfl⟩
    · obtain ⟨l, e⟩ := ih k hk
      exact ⟨n :: l, by rw [e]; rfl⟩
/-- the depth, from 1 -/
def dp (A : At) (n : Nat) : Nat := (chain A (nI n)).length
theorem dp_kid (h : WF A K) {p k : Nat} (hp : live A p) (hk : k ∈ K p) : dp A k = dp A p + 1 := by
  obtain ⟨hl, e⟩ := h.2.2.1 p hp k hk
  unfold dp
  rw [chain_cons h hl, e]
  rfl
theorem dp_le (h : WF A K) {n : Nat} (hn : live A n) : 1 ≤ dp A n ∧ dp A n ≤ 24 := by
  refine ⟨?_, chain_len h (Or.inr ⟨n, hn, rfl⟩)⟩
  unfold dp
  rw [chain_cons h hn]
  exact Nat.succ_pos _
theorem chain_same (h : WF A K) {v : Int32} (hv : orN A v) {a b : Nat} (ha : a ∈ chain A v) (hb : b ∈ chain A v) (e : dp A a = dp A b) : a = b := by
  obtain ⟨l, e1⟩ := chain_suffix h v hv a ha
  obtain ⟨l', e2⟩ := chain_suffix h v hv b hb
  have hla := chain_live h hv ha
  have hlb := chain_live h hv hb
  have e3 : l ++ chain A (nI a) = l' ++ chain A (nI b) := e1.symm.trans e2
  have e4 : chain A (nI a) = chain A (nI b) := (List.append_inj' e3 e).2
  rw [chain_cons h hla, chain_cons h hlb] at e4
  exact (List.cons.inj e4).1
theorem chain_up (h : WF A K) {v : Int32} (hv : orN A v) {k p : Nat} (hk : k ∈ chain A v) (hp : live A p) (e : A k 1 = nI p) : p ∈ chain A v := by
  obtain ⟨l, e1⟩ := chain_suffix h v hv k hk
  rw [e1, chain_cons h (chain_live h hv hk), e, chain_cons h hp]
  simp
theorem chain_root (h : WF A K) {n : Nat} (hn : live A n) : 0 ∈ chain A (nI n) := by
  have : ∀ v, orN A v → v ≠ -1 → 0 ∈ chain A v := by
    refine chain_ind h _ (fun hx => absurd rfl hx) (fun m hm ih _ => ?_)
    rw [chain_cons h hm]
    by_cases h0 : m = 0
    · subst h0; exact List.mem_cons_self
    · obtain ⟨p, hp, e, -⟩ := h.2.1 m hm h0
      exact List.mem_cons_of_mem _ (ih (by rw [e]; exact nI_ne_neg hp.lt))
  exact this _ (Or.inr ⟨n, hn, rfl⟩) (nI_ne_neg hn.lt)
end TREE
