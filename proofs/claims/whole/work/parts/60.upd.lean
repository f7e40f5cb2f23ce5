/-! ===== LEVEL 2: what changes a tree; the class ===== -/
def sA (A : At) (j k : Nat) (v : Int32) : At := fun i s => if i = j ∧ s = k then v else A i s
def sW (W : Wt) (j k : Nat) (l : List Int32) : Wt := fun i s => if i = j ∧ s = k then l else W i s
def sK (K : Kt) (j : Nat) (l : List Nat) : Kt := fun i => if i = j then l else K i
def ins (l : List Nat) (k a : Nat) : List Nat := l.take k ++ a :: l.drop k
def bgv (r : Int32) (s : Nat) : Int32 := if s = 0 then r else if s = 1 then -1 else if s = 2 then -1 else if s = 4 then -1 else 0
def bgA (A : At) (j : Nat) (r : Int32) : At := fun i s => if i = j then bgv r s else A i s
def bgW (W : Wt) (j : Nat) : Wt := fun i s => if i = j then [] else W i s
section UPD
variable {A A' : At} {K K' : Kt} {W W' : Wt} {i j k s : Nat} {v : Int32}
theorem sA_s : sA A j k v j k = v := if_pos ⟨rfl, rfl⟩
theorem sA_i (h : i ≠ j) : sA A j k v i s = A i s := if_neg (fun z => h z.1)
theorem sA_k (h : s ≠ k) : sA A j k v i s = A i s := if_neg (fun z => h z.2)
theorem sW_s {l : List Int32} : sW W j k l j k = l := if_pos ⟨rfl, rfl⟩
theorem sW_i {l : List Int32} (h : i ≠ j) : sW W j k l i s = W i s := if_neg (fun z => h z.1)
theorem sW_k {l : List Int32} (h : s ≠ k) : sW W j k l i s = W i s := if_neg (fun z => h z.2)
theorem sK_s {l : List Nat} : sK K j l j = l := if_pos rfl
theorem sK_i {l : List Nat} (h : i ≠ j) : sK K j l i = K i := if_neg h
theorem bgA_s : bgA A j v j s = bgv v s := if_pos rfl
theorem bgA_i (h : i ≠ j) : bgA A j v i s = A i s := if_neg h
theorem bgW_s : bgW W j j s = [] := if_pos rfl
theorem bgW_i (h : i ≠ j) : bgW W j i s = W i s := if_neg h
theorem ins_len {l : List Nat} {k a : Nat} (hk : k ≤ l.length) : (ins l k a).length = l.length + 1 := by
  unfold ins
  rw [List.length_append, List.length_cons, List.length_take, List.length_drop]
  omega
theorem ins_get {l : List Nat} {k a : Nat} (hk : k ≤ l.length) (i : Nat) : (ins l k a)[i]? = if i < k then l[i]? else if i = k then some a else l[i - 1]? := by
  unfold ins
  rw [List.getElem?_append, List.length_take, Nat.min_eq_left hk]
  by_cases h : i < k
  · rw [if_pos h, if_pos h]
    simp [List.getElem?_take, h]
  · rw [if_neg h, if_neg h]
    by_cases e : i = k
    · subst e; rw [if_pos rfl, Nat.sub_self]; rfl
    · rw [if_neg e]
      obtain ⟨m, hm⟩ : ∃ m, i = k + 1 + m := ⟨i - k - 1, by omega⟩
      subst hm
      rw [show k + 1 + m - k = m + 1 from by omega, List.getElem?_cons_succ, List.getElem?_drop]
      congr 1
      omega
theorem ins_mem {l : List Nat} {k a x : Nat} : x ∈ ins l k a ↔ x = a ∨ x ∈ l := by
  unfold ins
  rw [List.mem_append, List.mem_cons]
  constructor
  · rintro (h | h | h)
    · exact Or.inr (List.mem_of_mem_take h)
    · exact Or.inl h
    · exact Or.inr (List.mem_of_mem_drop h)
  · rintro (h | h)
    · exact Or.inr (Or.inl h)
    · rw [← List.take_append_drop k l] at h
      rcases List.mem_append.mp h with h | h
      · exact Or.inl h
      · exact Or.inr (Or.inr h)
theorem ins_nodup {l : List Nat} {k a : Nat} (hl : l.Nodup) (ha : a ∉ l) : (ins l k a).Nodup := by
  have h := hl
  rw [← List.take_append_drop k l] at h
  obtain ⟨h1, h2, h3⟩ := List.nodup_append.mp h
  unfold ins
  refine List.nodup_append.mpr ⟨h1, List.nodup_cons.mpr ⟨fun z => ha (List.mem_of_mem_drop z), h2⟩, fun x hx y hy e => ?_⟩
  subst e
  rcases List.mem_cons.mp hy with e | hy
  · subst e; exact ha (List.mem_of_mem_take hx)
  · exact h3 x hx x hy rfl
theorem del_len {l : List Nat} {a : Nat} (ha : a ∈ l) : (l.eraseIdx (l.idxOf a)).length + 1 = l.length := by
  have h := (List.getElem?_eq_some_iff.mp (get_idx ha)).1
  rw [List.length_eraseIdx_of_lt h]
  omega
theorem del_mem {l : List Nat} (hl : l.Nodup) {a x : Nat} (ha : a ∈ l) : x ∈ l.eraseIdx (l.idxOf a) ↔ x ≠ a ∧ x ∈ l := by
  constructor
  · intro h
    refine ⟨fun e => ?_, List.mem_of_mem_eraseIdx h⟩
    subst e
    obtain ⟨i, hi, e⟩ := List.mem_iff_getElem.mp h
    have h1 : (l.eraseIdx (l.idxOf x))[i]? = some x := by rw [List.getElem?_eq_getElem hi, e]
    rw [List.getElem?_eraseIdx] at h1
    by_cases hlt : i < l.idxOf x
    · rw [if_pos hlt] at h1; have := idx_get hl h1; omega
    · rw [if_neg hlt] at h1; have := idx_get hl h1; omega
  · rintro ⟨h1, h2⟩
    obtain ⟨i, hi, e⟩ := List.mem_iff_getElem.mp h2
    have hx : l[i]? = some x := by rw [List.getElem?_eq_getElem hi, e]
    have hne : i ≠ l.idxOf a := fun z => by
      rw [z, get_idx ha] at hx
      exact h1 (Option.some.inj hx).symm
    by_cases hlt : i < l.idxOf a
    · exact List.mem_of_getElem? (i := i) (by rw [List.getElem?_eraseIdx, if_pos hlt]; exact hx)
    · refine List.mem_of_getElem? (i := i - 1) ?_
      rw [List.getElem?_eraseIdx, if_neg (by omega), show i - 1 + 1 = i from by omega]
      exact hx
theorem del_nodup {l : List Nat} (hl : l.Nodup) {k : Nat} : (l.eraseIdx k).Nodup := hl.sublist (List.eraseIdx_sublist ..)
theorem live.cong (h : A' i 0 = A i 0) : live A' i ↔ live A i := by unfold live; rw [h]
theorem WF.cong (h : WF A K) (h0 : ∀ i, A' i 0 = A i 0) (h1 : ∀ i, A' i 1 = A i 1) : WF A' K := by
  have hl : ∀ i, live A' i = live A i := fun i => propext (live.cong (h0 i))
  unfold WF at h ⊢
  simp only [hl, h1]
  exact h
theorem chF_cong (h1 : ∀ i, A' i 1 = A i 1) : ∀ f v, chF A' f v = chF A f v := by
  intro f
  induction f with
  | zero => intro v; rfl
  | succ f ih => intro v; unfold chF; rw [h1, ih]
end UPD
/-- what belongs to a tree -/
def TS (t : Nat) : Nat → Prop := fun a => t < a ∧ a < t + 109
section CUPD
variable {Sh : Sp} {M M' : Mm} {t n : Nat} {A A' : At} {K K' : Kt} {W W' : Wt}
theorem CT.ci (h : CT Sh M t A K W) (ha : AgI (fun a => t + 1 ≤ a ∧ a ≤ t + 10) M M') (hc : CI M'.1 t A' K') : CT Sh M' t A' K' W := by
  obtain ⟨h1, -, h3, h4⟩ := h
  exact ⟨by rw [ha.1]; exact h1, hc, fun i hi => ⟨(h3 i hi).1.ag ha (by omega) (by omega), (h3 i hi).2.ag ha (by omega) (by omega)⟩, h4.ag ha (by omega) (by omega)⟩
theorem CT.cong (h : CT Sh M t A K W) (hA : ∀ i, i < 24 → ∀ s, s < 10 → A' i s = A i s) (hK : ∀ i, i < 24 → K' i = K i) (hW : ∀ i, i < 24 → W' i 0 = W i 0 ∧ W' i 1 = W i 1) : CT Sh M t A' K' W' := by
  obtain ⟨h1, h2, h3, h4⟩ := h
  refine ⟨h1, fun i hi => ?_, fun i hi => ?_, h4⟩
  · obtain ⟨q1, q2, q3, q4, q5, q6, q7, q8, q9⟩ := h2 i hi
    rw [hA i hi 0 (by decide), hA i hi 1 (by decide), hA i hi 2 (by decide), hA i hi 3 (by decide), hA i hi 4 (by decide), hK i hi]
    exact ⟨q1, q2, q3, q4, q5, q6, fun s hs => by rw [hA i hi _ (by omega)]; exact q7 s hs, q8, q9⟩
  · rw [(hW i hi).1, (hW i hi).2]
    exact h3 i hi
theorem agt {k : Nat} {x : Nat} {v : Int32} (h : t + 1 ≤ x ∧ x ≤ t + 10) : AgI (fun a => t + 1 ≤ a ∧ a ≤ t + 10) M (uI M x k v) := AgI.uI h
theorem agTS (h : AgI (fun a => t + 1 ≤ a ∧ a ≤ t + 10) M M') : AgI (TS t) M M' := h.mono (fun a z => by unfold TS; omega)
theorem ci0 {v : Int32} {j : Nat} (h : CI M.1 t A K) : CI (uI M (t + 1) j v).1 t (sA A j 0 v) K := by
  intro i hi
  obtain ⟨q1, q2, q3, q4, q5, q6, q7, q8, q9⟩ := h i hi
  refine ⟨?_, by rw [uI_off (by omega), sA_k (by decide)]; exact q2, by rw [uI_off (by omega)]; exact q3, by rw [uI_off (by omega), sA_k (by decide)]; exact q4, by rw [uI_off (by omega), sA_k (by decide)]; exact q5, by rw [uI_off (by omega), sA_k (by decide)]; exact q6, fun s hs => by rw [uI_off (by omega), sA_k (by omega)]; exact q7 s hs, q8, fun k hk => by rw [uI_off (by omega)]; exact q9 k hk⟩
  by_cases e : i = j
  · subst e; rw [uI_same, sA_s]
  · rw [uI_row e, sA_i e]; exact q1
theorem ci1 {v : Int32} {j : Nat} (h : CI M.1 t A K) : CI (uI M (t + 2) j v).1 t (sA A j 1 v) K := by
  intro i hi
  obtain ⟨q1, q2, q3, q4, q5, q6, q7, q8, q9⟩ := h i hi
  refine ⟨by rw [uI_off (by omega), sA_k (by decide)]; exact q1, ?_, by rw [uI_off (by omega)]; exact q3, by rw [uI_off (by omega), sA_k (by decide)]; exact q4, by rw [uI_off (by omega), sA_k (by decide)]; exact q5, by rw [uI_off (by omega), sA_k (by decide)]; exact q6, fun s hs => by rw [uI_off (by omega), sA_k (by omega)]; exact q7 s hs, q8, fun k hk => by rw [uI_off (by omega)]; exact q9 k hk⟩
  by_cases e : i = j
  · subst e; rw [uI_same, sA_s]
  · rw [uI_row e, sA_i e]; exact q2
theorem ci2 {v : Int32} {j : Nat} (h : CI M.1 t A K) : CI (uI M (t + 5) j v).1 t (sA A j 2 v) K := by
  intro i hi
  obtain ⟨q1, q2, q3, q4, q5, q6, q7, q8, q9⟩ := h i hi
  refine ⟨by rw [uI_off (by omega), sA_k (by decide)]; exact q1, by rw [uI_off (by omega), sA_k (by decide)]; exact q2, by rw [uI_off (by omega)]; exact q3, ?_, by rw [uI_off (by omega), sA_k (by decide)]; exact q5, by rw [uI_off (by omega), sA_k (by decide)]; exact q6, fun s hs => by rw [uI_off (by omega), sA_k (by omega)]; exact q7 s hs, q8, fun k hk => by rw [uI_off (by omega)]; exact q9 k hk⟩
  by_cases e : i = j
  · subst e; rw [uI_same, sA_s]
  · rw [uI_row e, sA_i e]; exact q4
theorem ci3 {v : Int32} {j : Nat} (h : CI M.1 t A K) : CI (uI M (t + 9) j v).1 t (sA A j 3 v) K := by
  intro i hi
  obtain ⟨q1, q2, q3, q4, q5, q6, q7, q8, q9⟩ := h i hi
  refine ⟨by rw [uI_off (by omega), sA_k (by decide)]; exact q1, by rw [uI_off (by omega), sA_k (by decide)]; exact q2, by rw [uI_off (by omega)]; exact q3, by rw [uI_off (by omega), sA_k (by decide)]; exact q4, ?_, by rw [uI_off (by omega), sA_k (by decide)]; exact q6, fun s hs => by rw [uI_off (by omega), sA_k (by omega)]; exact q7 s hs, q8, fun k hk => by rw [uI_off (by omega)]; exact q9 k hk⟩
  by_cases e : i = j
  · subst e; rw [uI_same, sA_s]
  · rw [uI_row e, sA_i e]; exact q5
theorem ci4 {v : Int32} {j : Nat} (h : CI M.1 t A K) : CI (uI M (t + 10) j v).1 t (sA A j 4 v) K := by
  intro i hi
  obtain ⟨q1, q2, q3, q4, q5, q6, q7, q8, q9⟩ := h i hi
  refine ⟨by rw [uI_off (by omega), sA_k (by decide)]; exact q1, by rw [uI_off (by omega), sA_k (by decide)]; exact q2, by rw [uI_off (by omega)]; exact q3, by rw [uI_off (by omega), sA_k (by decide)]; exact q4, by rw [uI_off (by omega), sA_k (by decide)]; exact q5, ?_, fun s hs => by rw [uI_off (by omega), sA_k (by omega)]; exact q7 s hs, q8, fun k hk => by rw [uI_off (by omega)]; exact q9 k hk⟩
  by_cases e : i = j
  · subst e; rw [uI_same, sA_s]
  · rw [uI_row e, sA_i e]; exact q6
theorem cis {v : Int32} {j s0 : Nat} (hs0 : s0 < 5) (h : CI M.1 t A K) : CI (uI M (t + 6) (5 * j + s0) v).1 t (sA A j (5 + s0) v) K := by
  intro i hi
  obtain ⟨q1, q2, q3, q4, q5, q6, q7, q8, q9⟩ := h i hi
  refine ⟨by rw [uI_off (by omega), sA_k (by omega)]; exact q1, by rw [uI_off (by omega), sA_k (by omega)]; exact q2, by rw [uI_off (by omega)]; exact q3, by rw [uI_off (by omega), sA_k (by omega)]; exact q4, by rw [uI_off (by omega), sA_k (by omega)]; exact q5, by rw [uI_off (by omega), sA_k (by omega)]; exact q6, fun s hs => ?_, q8, fun k hk => by rw [uI_off (by omega)]; exact q9 k hk⟩
  by_cases e : i = j
  · subst e
    by_cases e2 : s = s0
    · subst e2; rw [uI_same, sA_s]
    · rw [uI_row (by omega), sA_k (by omega)]; exact q7 s hs
  · rw [uI_row (by omega), sA_i e]; exact q7 s hs
/-- a node's children are another list, none -/
theorem ciN {j : Nat} (h : CI M.1 t A K) : CI (uI M (t + 3) j 0).1 t A (sK K j []) := by
  intro i hi
  obtain ⟨q1, q2, q3, q4, q5, q6, q7, q8, q9⟩ := h i hi
  by_cases e : i = j
  · subst e
    rw [sK_s]
    exact ⟨by rw [uI_off (by omega)]; exact q1, by rw [uI_off (by omega)]; exact q2, by rw [uI_same]; rfl, by rw [uI_off (by omega)]; exact q4, by rw [uI_off (by omega)]; exact q5, by rw [uI_off (by omega)]; exact q6, fun s hs => by rw [uI_off (by omega)]; exact q7 s hs, Nat.zero_le _, fun k hk => absurd hk (Nat.not_lt_zero k)⟩
  · rw [sK_i e]
    exact ⟨by rw [uI_off (by omega)]; exact q1, by rw [uI_off (by omega)]; exact q2, by rw [uI_row e]; exact q3, by rw [uI_off (by omega)]; exact q4, by rw [uI_off (by omega)]; exact q5, by rw [uI_off (by omega)]; exact q6, fun s hs => by rw [uI_off (by omega)]; exact q7 s hs, q8, fun k hk => by rw [uI_off (by omega)]; exact q9 k hk⟩
theorem mul5 (j s : Nat) : nI j * 5 + nI s = nI (5 * j + s) := by rw [show (5 : Int32) = nI 5 from rfl, nI_mulm, nI_addm, Nat.mul_comm]
theorem mul24 (j s : Nat) : nI j * 24 + nI s = nI (24 * j + s) := by rw [show (24 : Int32) = nI 24 from rfl, nI_mulm, nI_addm, Nat.mul_comm]
theorem c_give (h : CT Sh M t A K W) {j s : Nat} (hj : live A j) (hs : s < 5) (v : Int32) : ∃ M', fX4_give n Sh M t (nI j) (nI s) v = some M' ∧ CT Sh M' t (sA A j (5 + s) v) K W ∧ AgI (TS t) M M' := by
  unfold fX4_give
  rw [bind_of (c_has h _), i0 ((isN_nI hj.lt).mpr hj), if_neg (nI_pos (by omega)), if_pos (lt5 hs), tF_of h.1.2.1.2.2.2.2.2.1, mul5, sI_nI h.1.2.2.1.2.2.2.2.2.1 (by have := hj.1; omega) (by decide)]
  exact ⟨_, rfl, h.ci (agt (by omega)) (cis hs h.2.1), agTS (agt (by omega))⟩
theorem c_labelBy (h : CT Sh M t A K W) {j : Nat} (hj : live A j) (v : Int32) : ∃ M', fX4_labelBy n Sh M t (nI j) v = some M' ∧ CT Sh M' t (sA A j 2 v) K W ∧ AgI (TS t) M M' := by
  unfold fX4_labelBy
  rw [bind_of (c_has h _), i0 ((isN_nI hj.lt).mpr hj), tF_of h.1.2.1.2.2.2.2.1, sI_nI h.1.2.2.1.2.2.2.2.1 hj.1 (by decide)]
  exact ⟨_, rfl, h.ci (agt (by omega)) (ci2 h.2.1), agTS (agt (by omega))⟩
theorem c_closeDialog (h : CT Sh M t A K W) {j : Nat} (hj : live A j) : ∃ M', fX4_closeDialog n Sh M t (nI j) = some M' ∧ CT Sh M' t (sA A j 3 0) K W ∧ AgI (fun a => t + 1 ≤ a ∧ a ≤ t + 10) M M' := by
  unfold fX4_closeDialog
  rw [bind_of (c_has h _), i0 ((isN_nI hj.lt).mpr hj), tF_of h.1.2.1.2.2.2.2.2.2.2.2.1, sI_nI h.1.2.2.1.2.2.2.2.2.2.2.2.1 hj.1 (by decide)]
  exact ⟨_, rfl, h.ci (agt (by omega)) (ci3 h.2.1), agt (by omega)⟩
theorem CT.u9 (h : CT Sh M t A K W) (v : Int32) : CT Sh (uI M t 9 v) t A K W := by
  obtain ⟨h1, h2, h3, h4⟩ := h
  have a1 : AgI (fun a => a = t) M (uI M t 9 v) := AgI.uI rfl
  refine ⟨h1, fun i hi => ?_, fun i hi => ⟨(h3 i hi).1.ag a1 (by omega) (by omega), (h3 i hi).2.ag a1 (by omega) (by omega)⟩, h4.ag a1 (by omega) (by omega)⟩
  obtain ⟨q1, q2, q3, q4, q5, q6, q7, q8, q9⟩ := h2 i hi
  exact ⟨by rw [uI_off (by omega)]; exact q1, by rw [uI_off (by omega)]; exact q2, by rw [uI_off (by omega)]; exact q3, by rw [uI_off (by omega)]; exact q4, by rw [uI_off (by omega)]; exact q5, by rw [uI_off (by omega)]; exact q6, fun s hs => by rw [uI_off (by omega)]; exact q7 s hs, q8, fun k hk => by rw [uI_off (by omega)]; exact q9 k hk⟩
theorem c_openDialog (h : CT Sh M t A K W) {j : Nat} (hj : live A j) (v : Int32) : ∃ M', fX4_openDialog n Sh M t (nI j) v = some M' ∧ CT Sh M' t (sA (sA A j 3 (M.1 t 9 + 1)) j 4 v) K W ∧ M'.1 t 9 = M.1 t 9 + 1 ∧ AgI (fun a => t ≤ a ∧ a < t + 109) M M' := by
  unfold fX4_openDialog
  rw [bind_of (c_has h _), i0 ((isN_nI hj.lt).mpr hj)]
  simp only [tI_of, qI_of, uI_same]
  have h1 := h.u9 (M.1 t 9 + 1)
  rw [tF_of h1.1.2.1.2.2.2.2.2.2.2.2.1, sI_nI h1.1.2.2.1.2.2.2.2.2.2.2.2.1 hj.1 (by decide)]
  have h2 := h1.ci (agt (M := uI M t 9 (M.1 t 9 + 1)) (k := j) (v := M.1 t 9 + 1) (show t + 1 ≤ t + 9 ∧ t + 9 ≤ t + 10 by omega)) (ci3 h1.2.1)
  rw [tF_of h2.1.2.1.2.2.2.2.2.2.2.2.2.1, sI_nI h2.1.2.2.1.2.2.2.2.2.2.2.2.2 hj.1 (by decide)]
  refine ⟨_, rfl, h2.ci (agt (by omega)) (ci4 h2.2.1), ?_, ((AgI.uI (by omega)).tr (AgI.uI (by omega))).tr (AgI.uI (by omega))⟩
  rw [uI_off (by omega), uI_off (by omega), uI_same]
end CUPD
