/-! ===== LEVEL 2: the reference: what changes the page's nodes ===== -/
/-- the page's node, but for its place where it is x -/
def MPx (x : Nat) (pg : Nat → Int32) (A : At) (K : Kt) (W : Wt) (j : Nat) : Prop := pg (30 * j) = bI (live A j) ∧ (live A j → (j ≠ x → pg (30 * j + 1) = A j 1 ∧ pg (30 * j + 2) = nI (rank A K j)) ∧ pg (30 * j + 3) = A j 0 ∧ pg (30 * j + 4) = A j 2 ∧ (∀ s, s < 5 → pg (30 * j + (5 + s)) = A j (5 + s)) ∧ pg (30 * j + 10) = A j 3 ∧ pg (30 * j + 11) = (if A j 3 = 0 then -1 else A j 4) ∧ pg (30 * j + 12) = nI (W j 0).length ∧ pg (30 * j + 13) = nI (W j 1).length ∧ (∀ k, k < (W j 0).length → pg (30 * j + (14 + k)) = (W j 0).getD k 0) ∧ (∀ k, k < (W j 1).length → pg (30 * j + (22 + k)) = (W j 1).getD k 0))
def WL (A : At) (W : Wt) : Prop := ∀ j, live A j → (W j 0).length ≤ 8 ∧ (W j 1).length ≤ 8
theorem WA.wl {A : At} {W : Wt} (h : WA A W) : WL A W := fun j hj => ⟨(h j hj).1, (h j hj).2.1⟩
section MPX
variable {pg pg' : Nat → Int32} {A A' : At} {K K' : Kt} {W W' : Wt} {x j : Nat}
theorem MP.mx (h : MP pg A K W) (x : Nat) (hj : j < 24) : MPx x pg A K W j := by
  obtain ⟨h0, h1⟩ := h j hj
  refine ⟨h0, fun hl => ?_⟩
  obtain ⟨q1, q2, q⟩ := h1 hl
  exact ⟨fun _ => ⟨q1, q2⟩, q⟩
theorem MP.ofx (h : ∀ j, j < 24 → MPx 24 pg A K W j) : MP pg A K W := by
  intro j hj
  obtain ⟨h0, h1⟩ := h j hj
  refine ⟨h0, fun hl => ?_⟩
  obtain ⟨q1, q⟩ := h1 hl
  exact ⟨(q1 (by omega)).1, (q1 (by omega)).2, q⟩
theorem MPx.cong (h : MPx x pg A K W j) (x' : Nat) (hx : j = x → j = x') (h0 : pg' (30 * j) = pg (30 * j)) (hp : live A j → ∀ i, 30 * j + 1 ≤ i → i < 30 * j + 30 → pg' i = pg i) (hl : live A' j ↔ live A j) (hc : live A j → (∀ s, s < 10 → s ≠ 4 → A' j s = A j s) ∧ (A j 3 ≠ 0 → A' j 4 = A j 4) ∧ (j ≠ x → rank A' K' j = rank A K j) ∧ (W' j 0 = W j 0 ∧ W' j 1 = W j 1) ∧ (W j 0).length ≤ 8 ∧ (W j 1).length ≤ 8) : MPx x' pg' A' K' W' j := by
  obtain ⟨g0, g1⟩ := h
  refine ⟨by rw [h0, g0, bI_congr hl], fun hl' => ?_⟩
  have hl := hl.mp hl'
  have hp := hp hl
  obtain ⟨c1, c2, c3, c4, c5, c6⟩ := hc hl
  obtain ⟨q1, q3, q4, q5, q6, q7, q8, q9, q10, q11⟩ := g1 hl
  refine ⟨fun z => ?_, by rw [hp _ (by omega) (by omega), c1 0 (by decide) (by decide)]; exact q3, by rw [hp _ (by omega) (by omega), c1 2 (by decide) (by decide)]; exact q4, fun s hs => by rw [hp _ (by omega) (by omega), c1 _ (by omega) (by omega)]; exact q5 s hs, by rw [hp _ (by omega) (by omega), c1 3 (by decide) (by decide)]; exact q6, ?_, by rw [hp _ (by omega) (by omega), c4.1]; exact q8, by rw [hp _ (by omega) (by omega), c4.2]; exact q9, fun k hk => by rw [c4.1] at hk ⊢; rw [hp _ (by omega) (by omega)]; exact q10 k hk, fun k hk => by rw [c4.2] at hk ⊢; rw [hp _ (by omega) (by omega)]; exact q11 k hk⟩
  · have hjx : j ≠ x := fun y => z (hx y)
    rw [hp _ (by omega) (by omega), hp _ (by omega) (by omega), c1 1 (by decide) (by decide), c3 hjx]
    exact q1 hjx
  · rw [hp _ (by omega) (by omega), c1 3 (by decide) (by decide), q7]
    by_cases z : A j 3 = 0
    · rw [if_pos z, if_pos z]
    · rw [if_neg z, if_neg z, c2 z]
/-- MP stays where nothing that it reads changes -/
theorem MP.cong (h : MP pg A K W) (hA : WL A W) (hp : ∀ i, i < 720 → pg' i = pg i) (hl : ∀ j, j < 24 → (live A' j ↔ live A j)) (hc : ∀ j, live A j → (∀ s, s < 10 → s ≠ 4 → A' j s = A j s) ∧ (A j 3 ≠ 0 → A' j 4 = A j 4) ∧ rank A' K' j = rank A K j ∧ (W' j 0 = W j 0 ∧ W' j 1 = W j 1)) : MP pg' A' K' W' := MP.ofx (fun j hj => (h.mx 24 hj).cong 24 id (hp _ (by omega)) (fun _ i h1 h2 => hp i (by omega)) (hl j hj) (fun hl => by
  obtain ⟨c1, c2, c3, c4⟩ := hc j hl
  exact ⟨c1, c2, fun _ => c3, c4, (hA j hl).1, (hA j hl).2⟩))
theorem rank_raw {p : Nat} (hp : p < 2 ^ 31) (e : A j 1 = nI p) : rank A K j = (K p).idxOf j := by
  unfold rank
  rw [e, if_neg (nI_pos hp), nI_clamp hp]
theorem rank_root (e : A j 1 = -1) : rank A K j = 0 := by
  unfold rank
  rw [e, if_pos (by decide)]
theorem rank_cong (e : A' j 1 = A j 1) : rank A' K j = rank A K j := by unfold rank; rw [e]
/-- labeller -/
theorem MP.p4 (h : MP pg A K W) (hA : WL A W) {a : Nat} (v : Int32) (hp : ∀ i, i < 720 → i ≠ 30 * a + 4 → pg' i = pg i) (hv : live A a → pg' (30 * a + 4) = v) : MP pg' (sA A a 2 v) K W := MP.ofx (fun j hj => by
  by_cases ja : j = a
  · subst ja
    obtain ⟨g0, g1⟩ := h.mx 24 hj
    refine ⟨by rw [hp _ (by omega) (by omega), g0, bI_congr (live_sA (by decide))], fun hl => ?_⟩
    have hl := (live_sA (by decide)).mp hl
    obtain ⟨x1, x2⟩ := hA j hl
    obtain ⟨q1, q3, q4, q5, q6, q7, q8, q9, q10, q11⟩ := g1 hl
    refine ⟨fun z => ?_, by rw [hp _ (by omega) (by omega), sA_k (by decide)]; exact q3, by rw [hv hl, sA_s], fun s hs => by rw [hp _ (by omega) (by omega), sA_k (by omega)]; exact q5 s hs, by rw [hp _ (by omega) (by omega), sA_k (by decide)]; exact q6, by rw [hp _ (by omega) (by omega), sA_k (by decide), sA_k (by decide)]; exact q7, by rw [hp _ (by omega) (by omega)]; exact q8, by rw [hp _ (by omega) (by omega)]; exact q9, fun k hk => by rw [hp _ (by omega) (by omega)]; exact q10 k hk, fun k hk => by rw [hp _ (by omega) (by omega)]; exact q11 k hk⟩
    rw [hp _ (by omega) (by omega), hp _ (by omega) (by omega), sA_k (by decide), rank_cong (sA_k (by decide))]
    exact q1 z
  · exact (h.mx 24 hj).cong 24 id (hp _ (by omega) (by omega)) (fun _ i h1 h2 => hp i (by omega) (by omega)) (live_sA (by decide)) (fun hl => ⟨fun s _ _ => sA_i ja, fun _ => sA_i ja, fun _ => rank_cong (sA_i ja), ⟨rfl, rfl⟩, (hA j hl).1, (hA j hl).2⟩))
/-- a setting -/
theorem MP.p5 (h : MP pg A K W) (hA : WL A W) {a s0 : Nat} (hs0 : s0 < 5) (v : Int32) (hp : ∀ i, i < 720 → i ≠ 30 * a + (5 + s0) → pg' i = pg i) (hv : live A a → pg' (30 * a + (5 + s0)) = v) : MP pg' (sA A a (5 + s0) v) K W := MP.ofx (fun j hj => by
  by_cases ja : j = a
  · subst ja
    obtain ⟨g0, g1⟩ := h.mx 24 hj
    refine ⟨by rw [hp _ (by omega) (by omega), g0, bI_congr (live_sA (by omega))], fun hl0 => ?_⟩
    have hl : live A j := (live_sA (by omega)).mp hl0
    clear hl0
    obtain ⟨x1, x2⟩ := hA j hl
    obtain ⟨q1, q3, q4, q5, q6, q7, q8, q9, q10, q11⟩ := g1 hl
    refine ⟨fun z => ?_, by rw [hp _ (by omega) (by omega), sA_k (by omega)]; exact q3, by rw [hp _ (by omega) (by omega), sA_k (by omega)]; exact q4, fun s hs => ?_, by rw [hp _ (by omega) (by omega), sA_k (by omega)]; exact q6, by rw [hp _ (by omega) (by omega), sA_k (by omega), sA_k (by omega)]; exact q7, by rw [hp _ (by omega) (by omega)]; exact q8, by rw [hp _ (by omega) (by omega)]; exact q9, fun k hk => by rw [hp _ (by omega) (by omega)]; exact q10 k hk, fun k hk => by rw [hp _ (by omega) (by omega)]; exact q11 k hk⟩
    · rw [hp _ (by omega) (by omega), hp _ (by omega) (by omega), sA_k (by omega), rank_cong (sA_k (by omega))]
      exact q1 z
    · by_cases e : s = s0
      · subst e; rw [hv hl, sA_s]
      · rw [hp _ (by omega) (by omega), sA_k (by omega)]; exact q5 s hs
  · exact (h.mx 24 hj).cong 24 id (hp _ (by omega) (by omega)) (fun _ i h1 h2 => hp i (by omega) (by omega)) (live_sA (by omega)) (fun hl => ⟨fun s _ _ => sA_i ja, fun _ => sA_i ja, fun _ => rank_cong (sA_i ja), ⟨rfl, rfl⟩, (hA j hl).1, (hA j hl).2⟩))
/-- a dialog's opening and what it remembers -/
theorem MP.p10 (h : MP pg A K W) (hA : WL A W) {a : Nat} (v w : Int32) (hp : ∀ i, i < 720 → i ≠ 30 * a + 10 → i ≠ 30 * a + 11 → pg' i = pg i) (hv : live A a → pg' (30 * a + 10) = v) (hw : live A a → pg' (30 * a + 11) = if v = 0 then -1 else w) : MP pg' (sA (sA A a 3 v) a 4 w) K W := MP.ofx (fun j hj => by
  have hll : ∀ i, live (sA (sA A a 3 v) a 4 w) i ↔ live A i := fun i => live.cong (by rw [sA_k (by decide), sA_k (by decide)])
  by_cases ja : j = a
  · subst ja
    obtain ⟨g0, g1⟩ := h.mx 24 hj
    refine ⟨by rw [hp _ (by omega) (by omega) (by omega), g0, bI_congr (hll j)], fun hl => ?_⟩
    have hl := (hll j).mp hl
    obtain ⟨x1, x2⟩ := hA j hl
    obtain ⟨q1, q3, q4, q5, q6, q7, q8, q9, q10, q11⟩ := g1 hl
    refine ⟨fun z => ?_, by rw [hp _ (by omega) (by omega) (by omega), sA_k (by decide), sA_k (by decide)]; exact q3, by rw [hp _ (by omega) (by omega) (by omega), sA_k (by decide), sA_k (by decide)]; exact q4, fun s hs => by rw [hp _ (by omega) (by omega) (by omega), sA_k (by omega), sA_k (by omega)]; exact q5 s hs, by rw [hv hl, sA_k (by decide), sA_s], by rw [hw hl, sA_k (by decide), sA_s, sA_s], by rw [hp _ (by omega) (by omega) (by omega)]; exact q8, by rw [hp _ (by omega) (by omega) (by omega)]; exact q9, fun k hk => by rw [hp _ (by omega) (by omega) (by omega)]; exact q10 k hk, fun k hk => by rw [hp _ (by omega) (by omega) (by omega)]; exact q11 k hk⟩
    rw [hp _ (by omega) (by omega) (by omega), hp _ (by omega) (by omega) (by omega), sA_k (by decide), sA_k (by decide), rank_cong (show sA (sA A j 3 v) j 4 w j 1 = A j 1 from by rw [sA_k (by decide), sA_k (by decide)])]
    exact q1 z
  · have e : ∀ s, sA (sA A a 3 v) a 4 w j s = A j s := fun s => by rw [sA_i ja, sA_i ja]
    exact (h.mx 24 hj).cong 24 id (hp _ (by omega) (by omega) (by omega)) (fun _ i h1 h2 => hp i (by omega) (by omega) (by omega)) (hll j) (fun hl => ⟨fun s _ _ => e s, fun _ => e 4, fun _ => rank_cong (e 1), ⟨rfl, rfl⟩, (hA j hl).1, (hA j hl).2⟩))
/-- other words -/
theorem MP.pw (h : MP pg A K W) (hA : WL A W) {a : Nat} {s0 lf cf : Nat} (hs : (s0 = 0 ∧ lf = 12 ∧ cf = 14) ∨ (s0 = 1 ∧ lf = 13 ∧ cf = 22)) (l : List Int32) (hl8 : l.length ≤ 8) (hp : ∀ i, i < 720 → i ≠ 30 * a + lf → (i < 30 * a + cf ∨ 30 * a + cf + 8 ≤ i) → pg' i = pg i) (hv : pg' (30 * a + lf) = nI l.length) (hw : ∀ k, k < l.length → pg' (30 * a + (cf + k)) = l.getD k 0) : MP pg' A K (sW W a s0 l) := MP.ofx (fun j hj => by
  by_cases ja : j = a
  · subst ja
    obtain ⟨g0, g1⟩ := h.mx 24 hj
    refine ⟨by rw [hp _ (by omega) (by omega) (by omega), g0], fun hl => ?_⟩
    obtain ⟨x1, x2⟩ := hA j hl
    obtain ⟨q1, q3, q4, q5, q6, q7, q8, q9, q10, q11⟩ := g1 hl
    refine ⟨fun z => ?_, by rw [hp _ (by omega) (by omega) (by omega)]; exact q3, by rw [hp _ (by omega) (by omega) (by omega)]; exact q4, fun s hs => by rw [hp _ (by omega) (by omega) (by omega)]; exact q5 s hs, by rw [hp _ (by omega) (by omega) (by omega)]; exact q6, by rw [hp _ (by omega) (by omega) (by omega)]; exact q7, ?_, ?_, ?_, ?_⟩
    · rw [hp _ (by omega) (by omega) (by omega), hp _ (by omega) (by omega) (by omega)]
      exact q1 z
    · rcases hs with ⟨rfl, rfl, rfl⟩ | ⟨rfl, rfl, rfl⟩
      · rw [sW_s]; exact hv
      · rw [sW_k (by decide), hp _ (by omega) (by omega) (by omega)]; exact q8
    · rcases hs with ⟨rfl, rfl, rfl⟩ | ⟨rfl, rfl, rfl⟩
      · rw [sW_k (by decide), hp _ (by omega) (by omega) (by omega)]; exact q9
      · rw [sW_s]; exact hv
    · rcases hs with ⟨rfl, rfl, rfl⟩ | ⟨rfl, rfl, rfl⟩
      · rw [sW_s]; exact hw
      · rw [sW_k (by decide)]; exact fun k hk => by rw [hp _ (by omega) (by omega) (by omega)]; exact q10 k hk
    · rcases hs with ⟨rfl, rfl, rfl⟩ | ⟨rfl, rfl, rfl⟩
      · rw [sW_k (by decide)]; exact fun k hk => by rw [hp _ (by omega) (by omega) (by omega)]; exact q11 k hk
      · rw [sW_s]; exact hw
  · exact (h.mx 24 hj).cong 24 id (hp _ (by omega) (by omega) (by omega)) (fun _ i h1 h2 => hp i (by omega) (by omega) (by omega)) Iff.rfl (fun hl => ⟨fun s _ _ => rfl, fun _ => rfl, fun _ => rfl, ⟨sW_i ja, sW_i ja⟩, (hA j hl).1, (hA j hl).2⟩))
end MPX
/-- the third field changed where P holds -/
noncomputable def chP (P : Nat → Prop) (g : Int32 → Int32) (i : Nat) (pg : Nat → Int32) : Nat → Int32 := fun x => cif (∃ j, j < i ∧ x = 30 * j + 2 ∧ P j) (g (pg x)) (pg x)
section CHP
variable {P : Nat → Prop} {g : Int32 → Int32} {i j x : Nat} {pg : Nat → Int32}
theorem ch_id (h : x % 30 ≠ 2) : chP P g i pg x = pg x := cif_neg (fun ⟨j, _, e, _⟩ => h (by omega))
theorem ch_ge (h : i ≤ j) : chP P g i pg (30 * j + 2) = pg (30 * j + 2) := cif_neg (fun ⟨k, h1, e, _⟩ => by omega)
theorem ch_np (h : ¬ P j) : chP P g i pg (30 * j + 2) = pg (30 * j + 2) := by
  refine cif_neg (fun ⟨k, h1, e, z⟩ => h ?_)
  have e2 : k = j := by omega
  rw [← e2]
  exact z
theorem ch_0 : chP P g 0 pg = pg := by
  funext x
  exact cif_neg (fun ⟨j, h, _⟩ => absurd h (Nat.not_lt_zero j))
theorem ch_no (h : ¬ P j) : chP P g (j + 1) pg = chP P g j pg := by
  funext x
  unfold chP
  by_cases c : ∃ k, k < j ∧ x = 30 * k + 2 ∧ P k
  · obtain ⟨k, h1, h2, h3⟩ := c
    rw [cif_pos ⟨k, by omega, h2, h3⟩, cif_pos ⟨k, h1, h2, h3⟩]
  · rw [cif_neg c, cif_neg]
    rintro ⟨k, h1, h2, h3⟩
    by_cases e : k = j
    · subst e; exact h h3
    · exact c ⟨k, by omega, h2, h3⟩
theorem ch_yes (h : P j) : upd (chP P g j pg) (30 * j + 2) (g (pg (30 * j + 2))) = chP P g (j + 1) pg := by
  funext x
  unfold upd
  by_cases e : x = 30 * j + 2
  · rw [if_pos e, e]
    exact (cif_pos ⟨j, by omega, rfl, h⟩).symm
  · rw [if_neg e]
    unfold chP
    by_cases c : ∃ k, k < j ∧ x = 30 * k + 2 ∧ P k
    · obtain ⟨k, h1, h2, h3⟩ := c
      rw [cif_pos ⟨k, h1, h2, h3⟩, cif_pos ⟨k, by omega, h2, h3⟩]
    · rw [cif_neg c, cif_neg]
      rintro ⟨k, h1, h2, h3⟩
      by_cases e2 : k = j
      · subst e2; exact e h2
      · exact c ⟨k, by omega, h2, h3⟩
theorem ch_fin (hj : j < 24) : chP P g 24 pg (30 * j + 2) = cif (P j) (g (pg (30 * j + 2))) (pg (30 * j + 2)) := by
  by_cases h : P j
  · rw [cif_pos h]; exact cif_pos ⟨j, hj, rfl, h⟩
  · rw [cif_neg h]; exact ch_np h
end CHP
theorem del_idx {l : List Nat} (hl : l.Nodup) {a j : Nat} (ha : a ∈ l) (hj : j ∈ l) (hja : j ≠ a) : (l.eraseIdx (l.idxOf a)).idxOf j = if l.idxOf a < l.idxOf j then l.idxOf j - 1 else l.idxOf j := by
  have hne : l.idxOf a ≠ l.idxOf j := fun z => by
    have h1 := get_idx ha
    rw [z, get_idx hj] at h1
    exact hja (Option.some.inj h1)
  by_cases c : l.idxOf a < l.idxOf j
  · rw [if_pos c]
    refine idx_get (del_nodup hl) ?_
    rw [List.getElem?_eraseIdx, if_neg (by omega), show l.idxOf j - 1 + 1 = l.idxOf j from by omega]
    exact get_idx hj
  · rw [if_neg c]
    refine idx_get (del_nodup hl) ?_
    rw [List.getElem?_eraseIdx, if_pos (by omega)]
    exact get_idx hj
theorem ins_idx {l : List Nat} (hl : l.Nodup) {a j k : Nat} (ha : a ∉ l) (hk : k ≤ l.length) (hj : j ∈ l) : (ins l k a).idxOf j = if k ≤ l.idxOf j then l.idxOf j + 1 else l.idxOf j := by
  by_cases c : k ≤ l.idxOf j
  · rw [if_pos c]
    refine idx_get (ins_nodup hl ha) ?_
    rw [ins_get hk, if_neg (by omega), if_neg (by omega), Nat.add_sub_cancel]
    exact get_idx hj
  · rw [if_neg c]
    refine idx_get (ins_nodup hl ha) ?_
    rw [ins_get hk, if_pos (by omega)]
    exact get_idx hj
theorem ins_idx_a {l : List Nat} (hl : l.Nodup) {a k : Nat} (ha : a ∉ l) (hk : k ≤ l.length) : (ins l k a).idxOf a = k := by
  refine idx_get (ins_nodup hl ha) ?_
  rw [ins_get hk, if_neg (by omega), if_pos rfl]
section MMOD
variable {Sh : Sp} {M M' : Mm} {μ n : Nat} {A A' : At} {K K' : Kt} {W W' : Wt}
theorem m_put (hL : ML Sh M.2.1 μ) {j w : Nat} (hj : j < 24) (hw : w < 30) (v : Int32) : fX7_put n Sh M μ (nI j) (nI w) v = some (uI M (μ + 1) (30 * j + w) v) := by
  unfold fX7_put
  rw [mul30 hj hw, tF_of hL.2.1.1, sI_nI hL.2.2.1 (by omega) (by decide)]
theorem m_detach0 (hL : ML Sh M.2.1 μ) (hP : MP (M.1 (μ + 1)) A K W) (hW : WF A K) (hn : 24 < n) {a : Nat} (ha : live A a) : fX7_detach n Sh M μ (nI a) = some (wI M (μ + 1) (chP (fun j => live A j ∧ A j 1 = A a 1 ∧ rank A K a < rank A K j) (fun v => v - 1) 24 (M.1 (μ + 1)))) := by
  unfold fX7_detach fX7_detach_2
  generalize hQ : (fun j => live A j ∧ A j 1 = A a 1 ∧ rank A K a < rank A K j) = P
  have hPj : ∀ j, P j ↔ live A j ∧ A j 1 = A a 1 ∧ rank A K a < rank A K j := fun j => by rw [← hQ]
  have rl := fun {j : Nat} (hj : live A j) => rank_lt hW hj
  refine iter_seq (N := 24) (fun i => (nI i, wI M (μ + 1) (chP P (fun v => v - 1) i (M.1 (μ + 1))))) (fun j hj => ?_) ?_ hn (by rw [ch_0, wI_self]; rfl)
  · have hLx : ML Sh (wI M (μ + 1) (chP P (fun v => v - 1) j (M.1 (μ + 1)))).2.1 μ := hL
    have rd0 : ∀ i w, i < 24 → w < 30 → w ≠ 2 → fX7_of n Sh (wI M (μ + 1) (chP P (fun v => v - 1) j (M.1 (μ + 1)))) μ (nI i) (nI w) = some (M.1 (μ + 1) (30 * i + w)) := fun i w hi hw h2 => by
      rw [m_of hLx hi hw, wI_same, ch_id (by omega)]
    have r0 : fX7_of n Sh (wI M (μ + 1) (chP P (fun v => v - 1) j (M.1 (μ + 1)))) μ (nI j) 0 = some (bI (live A j)) := (rd0 j 0 hj (by decide) (by decide)).trans (by rw [show 30 * j + 0 = 30 * j from rfl, (hP j hj).1])
    have r1 : ∀ i, live A i → fX7_of n Sh (wI M (μ + 1) (chP P (fun v => v - 1) j (M.1 (μ + 1)))) μ (nI i) 1 = some (A i 1) := fun i hi => (rd0 i 1 hi.1 (by decide) (by decide)).trans (by rw [((hP i hi.1).2 hi).1])
    have r2 : ∀ i, live A i → (i = j ∨ i = a) → fX7_of n Sh (wI M (μ + 1) (chP P (fun v => v - 1) j (M.1 (μ + 1)))) μ (nI i) 2 = some (nI (rank A K i)) := fun i hi hia => by
      refine (m_of hLx hi.1 (w := 2) (by decide)).trans ?_
      rw [wI_same, ← ((hP i hi.1).2 hi).2.1]
      rcases hia with e | e
      · rw [e, ch_ge (Nat.le_refl _)]
      · rw [e, ch_np (fun z => Nat.lt_irrefl _ ((hPj a).mp z).2.2)]
    unfold fX7_detach_2b fX7_detach_62
    dsimp only
    rw [if_pos (lt24 hj), bind_of r0]
    by_cases hl : live A j
    · rw [i1 hl, bind_of (r1 j hl), bind_of (r1 a ha)]
      by_cases c1 : A j 1 = A a 1
      · rw [if_pos c1, bind_of (r2 j hl (Or.inl rfl)), bind_of (r2 a ha (Or.inr rfl))]
        have b1 := rl hl
        have b2 := rl ha
        simp only [le_nI (show rank A K j < 2 ^ 31 by omega) (show rank A K a < 2 ^ 31 by omega)]
        by_cases c2 : rank A K j ≤ rank A K a
        · rw [if_pos c2, ch_no (fun z => by have := ((hPj j).mp z).2.2; omega), nI_add1]
        · rw [if_neg c2, bind_of (r2 j hl (Or.inl rfl))]
          have e : fX7_put n Sh (wI M (μ + 1) (chP P (fun v => v - 1) j (M.1 (μ + 1)))) μ (nI j) 2 (nI (rank A K j) - 1) = some _ := m_put (n := n) (j := j) (w := 2) hLx hj (by decide) (nI (rank A K j) - 1)
          rw [wI_upd, ← ((hP j hj).2 hl).2.1, ch_yes (g := fun v => v - 1) ((hPj j).mpr ⟨hl, c1, by omega⟩)] at e
          rw [← ((hP j hj).2 hl).2.1, bind_of e, nI_add1]
      · rw [if_neg c1, ch_no (fun z => c1 ((hPj j).mp z).2.1), nI_add1]
    · rw [i1n hl, ch_no (fun z => hl ((hPj j).mp z).1), nI_add1]
  · unfold fX7_detach_2b
    dsimp only
    rw [if_neg (show ¬ nI 24 < 24 by decide)]
theorem m_detach (hL : ML Sh M.2.1 μ) (hP : MP (M.1 (μ + 1)) A K W) (hW : WF A K) (hA : WL A W) (hn : 24 < n) {a q : Nat} (ha : live A a) (hq : live A q) (e : A a 1 = nI q) : ∃ M', fX7_detach n Sh M μ (nI a) = some M' ∧ (∀ j, j < 24 → MPx a (M'.1 (μ + 1)) (sA A a 1 (-1)) (sK K q ((K q).eraseIdx ((K q).idxOf a))) W j) ∧ PS μ (fun i => i < 720) M M' := by
  have hk := (hW.kid ha hq.1 e).2
  have nq := hW.2.2.2.1 q hq
  have hll : ∀ i, live (sA A a 1 (-1)) i ↔ live A i := fun i => live_sA (by decide)
  refine ⟨_, m_detach0 hL hP hW hn ha, fun j hj => ?_, ⟨rfl, fun b hb => wI_off hb, fun i hi => ?_⟩⟩
  · rw [wI_same]
    have e0 : ∀ i, i % 30 ≠ 2 → chP (fun j => live A j ∧ A j 1 = A a 1 ∧ rank A K a < rank A K j) (fun v => v - 1) 24 (M.1 (μ + 1)) i = M.1 (μ + 1) i := fun i hi => ch_id hi
    have e2 := ch_fin (P := fun j => live A j ∧ A j 1 = A a 1 ∧ rank A K a < rank A K j) (g := fun v => v - 1) (pg := M.1 (μ + 1)) hj
    generalize chP (fun j => live A j ∧ A j 1 = A a 1 ∧ rank A K a < rank A K j) (fun v => v - 1) 24 (M.1 (μ + 1)) = pg' at *
    obtain ⟨g0, g1⟩ := hP.mx 24 hj
    refine ⟨by rw [e0 _ (by omega), g0, bI_congr (hll j)], fun hl => ?_⟩
    have hl := (hll j).mp hl
    obtain ⟨x1, x2⟩ := hA j hl
    obtain ⟨q1, q3, q4, q5, q6, q7, q8, q9, q10, q11⟩ := g1 hl
    obtain ⟨p1, p2⟩ := q1 (by omega)
    refine ⟨fun z => ?_, by rw [e0 _ (by omega), sA_k (by decide)]; exact q3, by rw [e0 _ (by omega), sA_k (by decide)]; exact q4, fun s hs => by rw [e0 _ (by omega), sA_k (by omega)]; exact q5 s hs, by rw [e0 _ (by omega), sA_k (by decide)]; exact q6, by rw [e0 _ (by omega), sA_k (by decide), sA_k (by decide)]; exact q7, by rw [e0 _ (by omega)]; exact q8, by rw [e0 _ (by omega)]; exact q9, fun k hk => by rw [e0 _ (by omega)]; exact q10 k hk, fun k hk => by rw [e0 _ (by omega)]; exact q11 k hk⟩
    rw [e0 _ (by omega), sA_i z]
    refine ⟨p1, ?_⟩
    rw [e2, p2]
    rcases hW.par hl with r | ⟨u, hu, r⟩
    · rw [cif_neg (fun y => by have := y.2.1; rw [r, e] at this; exact nI_ne_neg hq.lt this.symm), rank_root r, rank_root (show sA A a 1 (-1) j 1 = -1 from by rw [sA_i z]; exact r)]
    · rw [rank_raw hu.lt r, rank_raw hu.lt (show sA A a 1 (-1) j 1 = nI u from by rw [sA_i z]; exact r), rank_raw hq.lt e]
      by_cases uq : u = q
      · subst uq
        have hju := (hW.kid hl hu.1 r).2
        rw [sK_s, del_idx nq hk hju z]
        by_cases c : (K u).idxOf a < (K u).idxOf j
        · rw [cif_pos ⟨hl, by rw [r, e], c⟩, if_pos c, nI_sub1 (by omega)]
        · rw [cif_neg (fun y => c y.2.2), if_neg c]
      · rw [sK_i uq, cif_neg (fun y => uq (nI_inj hu.lt hq.lt (by have := y.2.1; rw [r, e] at this; exact this)))]
  · rw [wI_same]
    by_cases c : i % 30 = 2
    · exact cif_neg (fun ⟨j, h1, h2, _⟩ => by omega)
    · exact ch_id c
theorem m_attach (hL : ML Sh M.2.1 μ) {a p pos : Nat} (hP : ∀ j, j < 24 → MPx a (M.1 (μ + 1)) A K W j) (hA : WL A W) (hn : 24 < n) (ha : live A a) (hp : live A p) (hpos : pos ≤ (K p).length) (hlen : (K p).length ≤ 24) (hnd : (K p).Nodup) (hap : a ∉ K p) (hkid : ∀ j, live A j → j ≠ a → A j 1 = -1 ∨ ∃ u, u < 24 ∧ A j 1 = nI u ∧ j ∈ K u) : ∃ M', fX7_attach n Sh M μ (nI a) (nI p) (nI pos) = some M' ∧ MP (M'.1 (μ + 1)) (sA A a 1 (nI p)) (sK K p (ins (K p) pos a)) W ∧ PS μ (fun i => i < 720) M M' := by
  unfold fX7_attach fX7_attach_3
  generalize hQ : (fun j => j ≠ a ∧ live A j ∧ A j 1 = nI p ∧ pos ≤ rank A K j) = P
  have hPj : ∀ j, P j ↔ j ≠ a ∧ live A j ∧ A j 1 = nI p ∧ pos ≤ rank A K j := fun j => by rw [← hQ]
  have hal := ha.1
  have rb : ∀ j, live A j → j ≠ a → A j 1 = nI p → rank A K j < 24 := fun j hj hja e => by
    rw [rank_raw hp.lt e]
    rcases hkid j hj hja with z | ⟨u, hu, z, hk⟩
    · rw [z] at e; exact absurd e.symm (nI_ne_neg hp.lt)
    · have : u = p := nI_inj (by omega) hp.lt (z.symm.trans e)
      subst this
      have := (List.getElem?_eq_some_iff.mp (get_idx hk)).1
      omega
  refine ⟨_, iter_seq (N := 24) (r := uI (uI (wI M (μ + 1) (chP P (fun v => v + 1) 24 (M.1 (μ + 1)))) (μ + 1) (30 * a + 1) (nI p)) (μ + 1) (30 * a + 2) (nI pos)) (fun i => (nI i, wI M (μ + 1) (chP P (fun v => v + 1) i (M.1 (μ + 1))))) (fun j hj => ?_) ?_ hn (by rw [ch_0, wI_self]; rfl), ?_, ⟨rfl, fun b hb => by rw [uI_off hb, uI_off hb]; exact wI_off hb, fun i hi => ?_⟩⟩
  · have hLx : ML Sh (wI M (μ + 1) (chP P (fun v => v + 1) j (M.1 (μ + 1)))).2.1 μ := hL
    have rd0 : ∀ i w, i < 24 → w < 30 → w ≠ 2 → fX7_of n Sh (wI M (μ + 1) (chP P (fun v => v + 1) j (M.1 (μ + 1)))) μ (nI i) (nI w) = some (M.1 (μ + 1) (30 * i + w)) := fun i w hi hw h2 => by
      rw [m_of hLx hi hw, wI_same, ch_id (by omega)]
    have r0 : fX7_of n Sh (wI M (μ + 1) (chP P (fun v => v + 1) j (M.1 (μ + 1)))) μ (nI j) 0 = some (bI (live A j)) := (rd0 j 0 hj (by decide) (by decide)).trans (by rw [show 30 * j + 0 = 30 * j from rfl, (hP j hj).1])
    unfold fX7_attach_3b fX7_attach_65
    dsimp only
    rw [if_pos (lt24 hj)]
    by_cases ja : j = a
    · rw [if_pos (by rw [ja]), ch_no (fun z => ((hPj j).mp z).1 ja), nI_add1]
    · rw [if_neg (fun z => ja (nI_inj (by omega) (by omega) z)), bind_of r0]
      by_cases hl : live A j
      · obtain ⟨q1, -⟩ := (hP j hj).2 hl
        obtain ⟨p1, p2⟩ := q1 ja
        have r1 : fX7_of n Sh (wI M (μ + 1) (chP P (fun v => v + 1) j (M.1 (μ + 1)))) μ (nI j) 1 = some (A j 1) := (rd0 j 1 hj (by decide) (by decide)).trans (by rw [p1])
        have r2 : fX7_of n Sh (wI M (μ + 1) (chP P (fun v => v + 1) j (M.1 (μ + 1)))) μ (nI j) 2 = some (nI (rank A K j)) := by
          refine (m_of hLx hj (w := 2) (by decide)).trans ?_
          rw [wI_same, ← p2, ch_ge (Nat.le_refl _)]
        rw [i1 hl, bind_of r1]
        by_cases c1 : A j 1 = nI p
        · rw [if_pos c1, bind_of r2]
          have b1 := rb j hl ja c1
          simp only [lt_nI (show rank A K j < 2 ^ 31 by omega) (show pos < 2 ^ 31 by omega)]
          by_cases c2 : rank A K j < pos
          · rw [if_pos c2, ch_no (fun z => by have := ((hPj j).mp z).2.2.2; omega), nI_add1]
          · rw [if_neg c2, bind_of r2]
            have e : fX7_put n Sh (wI M (μ + 1) (chP P (fun v => v + 1) j (M.1 (μ + 1)))) μ (nI j) 2 (nI (rank A K j) + 1) = some _ := m_put (n := n) (j := j) (w := 2) hLx hj (by decide) (nI (rank A K j) + 1)
            rw [wI_upd, ← p2, ch_yes (g := fun v => v + 1) ((hPj j).mpr ⟨ja, hl, c1, by omega⟩)] at e
            rw [← p2, bind_of e, nI_add1]
        · rw [if_neg c1, ch_no (fun z => c1 ((hPj j).mp z).2.2.1), nI_add1]
      · rw [i1n hl, ch_no (fun z => hl ((hPj j).mp z).2.1), nI_add1]
  · unfold fX7_attach_3b fX7_attach_71
    dsimp only
    rw [if_neg (show ¬ nI 24 < 24 by decide)]
    have hLx : ML Sh (wI M (μ + 1) (chP P (fun v => v + 1) 24 (M.1 (μ + 1)))).2.1 μ := hL
    have e1 : fX7_put n Sh (wI M (μ + 1) (chP P (fun v => v + 1) 24 (M.1 (μ + 1)))) μ (nI a) 1 (nI p) = some _ := m_put hLx hal (w := 1) (by decide) (nI p)
    have hLy : ML Sh (uI (wI M (μ + 1) (chP P (fun v => v + 1) 24 (M.1 (μ + 1)))) (μ + 1) (30 * a + 1) (nI p)).2.1 μ := hL
    have e2 : fX7_put n Sh (uI (wI M (μ + 1) (chP P (fun v => v + 1) 24 (M.1 (μ + 1)))) (μ + 1) (30 * a + 1) (nI p)) μ (nI a) 2 (nI pos) = some _ := m_put hLy hal (w := 2) (by decide) (nI pos)
    rw [bind_of e1, bind_of e2]
    rfl
  · refine MP.ofx (fun j hj => ?_)
    have hll : ∀ i, live (sA A a 1 (nI p)) i ↔ live A i := fun i => live_sA (by decide)
    have e0 : ∀ i, i % 30 ≠ 2 → i ≠ 30 * a + 1 → (uI (uI (wI M (μ + 1) (chP P (fun v => v + 1) 24 (M.1 (μ + 1)))) (μ + 1) (30 * a + 1) (nI p)) (μ + 1) (30 * a + 2) (nI pos)).1 (μ + 1) i = M.1 (μ + 1) i := fun i hi h1 => by
      rw [uI_row (by omega), uI_row h1, wI_same]
      exact ch_id hi
    have e1 : (uI (uI (wI M (μ + 1) (chP P (fun v => v + 1) 24 (M.1 (μ + 1)))) (μ + 1) (30 * a + 1) (nI p)) (μ + 1) (30 * a + 2) (nI pos)).1 (μ + 1) (30 * a + 1) = nI p := by rw [uI_row (by omega), uI_same]
    have e3 : (uI (uI (wI M (μ + 1) (chP P (fun v => v + 1) 24 (M.1 (μ + 1)))) (μ + 1) (30 * a + 1) (nI p)) (μ + 1) (30 * a + 2) (nI pos)).1 (μ + 1) (30 * a + 2) = nI pos := uI_same
    have e2 : j ≠ a → (uI (uI (wI M (μ + 1) (chP P (fun v => v + 1) 24 (M.1 (μ + 1)))) (μ + 1) (30 * a + 1) (nI p)) (μ + 1) (30 * a + 2) (nI pos)).1 (μ + 1) (30 * j + 2) = cif (P j) (M.1 (μ + 1) (30 * j + 2) + 1) (M.1 (μ + 1) (30 * j + 2)) := fun z => by
      rw [uI_row (by omega), uI_row (by omega), wI_same]
      exact ch_fin hj
    generalize (uI (uI (wI M (μ + 1) (chP P (fun v => v + 1) 24 (M.1 (μ + 1)))) (μ + 1) (30 * a + 1) (nI p)) (μ + 1) (30 * a + 2) (nI pos)).1 (μ + 1) = pg' at *
    obtain ⟨g0, g1⟩ := hP j hj
    refine ⟨by rw [e0 _ (by omega) (by omega), g0, bI_congr (hll j)], fun hl0 => ?_⟩
    have hl : live A j := (hll j).mp hl0
    clear hl0
    obtain ⟨x1, x2⟩ := hA j hl
    obtain ⟨q1, q3, q4, q5, q6, q7, q8, q9, q10, q11⟩ := g1 hl
    refine ⟨fun _ => ?_, by rw [e0 _ (by omega) (by omega), sA_k (by decide)]; exact q3, by rw [e0 _ (by omega) (by omega), sA_k (by decide)]; exact q4, fun s hs => by rw [e0 _ (by omega) (by omega), sA_k (by omega)]; exact q5 s hs, by rw [e0 _ (by omega) (by omega), sA_k (by decide)]; exact q6, by rw [e0 _ (by omega) (by omega), sA_k (by decide), sA_k (by decide)]; exact q7, by rw [e0 _ (by omega) (by omega)]; exact q8, by rw [e0 _ (by omega) (by omega)]; exact q9, fun k hk => by rw [e0 _ (by omega) (by omega)]; exact q10 k hk, fun k hk => by rw [e0 _ (by omega) (by omega)]; exact q11 k hk⟩
    by_cases ja : j = a
    · subst ja
      rw [e1, sA_s, e3, rank_raw hp.lt (sA_s), sK_s, ins_idx_a hnd hap hpos]
      exact ⟨rfl, rfl⟩
    · obtain ⟨p1, p2⟩ := q1 ja
      rw [e0 _ (by omega) (by omega), sA_i ja, e2 ja, p2]
      refine ⟨p1, ?_⟩
      rcases hkid j hl ja with r | ⟨u, hu, r, hju⟩
      · rw [cif_neg (fun y => by have := ((hPj j).mp y).2.2.1; rw [r] at this; exact nI_ne_neg hp.lt this.symm), rank_root r, rank_root (show sA A a 1 (nI p) j 1 = -1 from by rw [sA_i ja]; exact r)]
      · rw [rank_raw (show u < 2 ^ 31 by omega) r, rank_raw (show u < 2 ^ 31 by omega) (show sA A a 1 (nI p) j 1 = nI u from by rw [sA_i ja]; exact r)]
        by_cases up : u = p
        · subst up
          rw [sK_s, ins_idx hnd hap hpos hju]
          have er : rank A K j = (K u).idxOf j := rank_raw (by omega) r
          by_cases c : pos ≤ (K u).idxOf j
          · rw [cif_pos ((hPj j).mpr ⟨ja, hl, r, by rw [er]; exact c⟩), if_pos c, nI_add1]
          · rw [cif_neg (fun y => c (by have := ((hPj j).mp y).2.2.2; rw [er] at this; exact this)), if_neg c]
        · rw [sK_i up, cif_neg (fun y => up (nI_inj (by omega) hp.lt (by have := ((hPj j).mp y).2.2.1; rw [r] at this; exact this)))]
  · rw [uI_row (by omega), uI_row (by omega), wI_same]
    by_cases c : i % 30 = 2
    · exact cif_neg (fun ⟨j, h1, h2, _⟩ => by omega)
    · exact ch_id c
end MMOD
