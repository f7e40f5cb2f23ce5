/-! ===== LEVEL 2, base: numbers, memory, loops ===== -/
theorem lt_nI {a b : Nat} (ha : a < 2 ^ 31) (hb : b < 2 ^ 31) : (nI a < nI b) = (a < b) := propext (nI_ltI ha hb)
theorem le_nI {a b : Nat} (ha : a < 2 ^ 31) (hb : b < 2 ^ 31) : (nI a ≤ nI b) = (a ≤ b) := propext (nI_leI ha hb)
theorem eq_nI {a b : Nat} (ha : a < 2 ^ 31) (hb : b < 2 ^ 31) : (nI a = nI b) = (a = b) := propext (nI_eq ha hb)
theorem nI_lt0 {a : Nat} (ha : a < 2 ^ 31) : (nI a < 0) = False := eq_false (nI_pos ha)
theorem nI_le0 {a : Nat} (ha : a < 2 ^ 31) : (nI a ≤ 0) = (a = 0) := by
  rw [show (0 : Int32) = nI 0 from rfl, le_nI ha (by decide)]
  exact propext ⟨fun h => Nat.le_zero.mp h, fun h => Nat.le_of_eq h⟩
theorem nI_eq0 {a : Nat} (ha : a < 2 ^ 31) : (nI a = 0) = (a = 0) := by rw [show (0 : Int32) = nI 0 from rfl, eq_nI ha (by decide)]
theorem nI_ne_neg {a : Nat} (ha : a < 2 ^ 31) : nI a ≠ -1 := fun h => by
  have := nI_pos ha
  rw [h] at this
  exact this (by decide)
theorem nI_eq_neg {a : Nat} (ha : a < 2 ^ 31) : (nI a = -1) = False := eq_false (nI_ne_neg ha)
theorem okA_nI {Sh : Sp} {a ti N j : Nat} (h : Sh a = some (.inr (ti, N))) (hj : j < N) (hN : N < 2 ^ 31) : okA Sh a ti (nI j) := ⟨N, h, vp_in_nI hj hN⟩
section L2
variable {ρ : Type} {Sh : Sp} {M : Mm} {a ti N j k ci b : Nat}
theorem aI_nI {K : Int32 → Option ρ} (h : Sh a = some (.inr (ti, N))) (hj : j < N) (hN : N < 2 ^ 31) : aI Sh M a ti (nI j) K = K (M.1 a j) := by
  unfold aI
  rw [chk_pos (okA_nI h hj hN), nI_clamp (by omega)]
theorem aR_nI {K : Nat → Option ρ} (h : Sh a = some (.inr (ti, N))) (hj : j < N) (hN : N < 2 ^ 31) (hr : M.2.1 a j = some b) : aR Sh M a ti (nI j) K = K b := by
  unfold aR
  rw [chk_pos (okA_nI h hj hN), nI_clamp (by omega), hr]
  rfl
theorem aL_nI {K : Int64 → Option ρ} (h : Sh a = some (.inr (2, N))) (hj : j < N) (hN : N < 2 ^ 31) : aL Sh M a (nI j) K = K (M.2.2 a j) := by
  unfold aL
  rw [chk_pos (okA_nI h hj hN), nI_clamp (by omega)]
theorem sI_nI {v : Int32} {K : Mm → Option ρ} (h : Sh a = some (.inr (0, N))) (hj : j < N) (hN : N < 2 ^ 31) : sI Sh M a (nI j) v K = K (uI M a j v) := by
  unfold sI
  rw [chk_pos (okA_nI h hj hN), nI_clamp (by omega)]
theorem sC_nI {v : Int32} {K : Mm → Option ρ} (h : Sh a = some (.inr (1, N))) (hj : j < N) (hN : N < 2 ^ 31) : sC Sh M a (nI j) v K = K (uI M a j (vp_nar .char v)) := by
  unfold sC
  rw [chk_pos (okA_nI h hj hN), nI_clamp (by omega)]
theorem sZ_nI {v : Int32} {K : Mm → Option ρ} (h : Sh a = some (.inr (3, N))) (hj : j < N) (hN : N < 2 ^ 31) : sZ Sh M a (nI j) v K = K (uI M a j (vp_nar .boolean v)) := by
  unfold sZ
  rw [chk_pos (okA_nI h hj hN), nI_clamp (by omega)]
theorem sR_nI {K : Mm → Option ρ} (h : Sh a = some (.inr (ti, N))) (hj : j < N) (hN : N < 2 ^ 31) (hb : Sh b = some (.inl ci)) : sR Sh M a ti ci (nI j) b K = K (uR M a j (some b)) := by
  unfold sR
  rw [chk_pos ⟨okA_nI h hj hN, hb⟩, nI_clamp (by omega)]
theorem tF_of {K : Nat → Option ρ} (h : M.2.1 a k = some b) : tF M a k K = K b := by unfold tF; rw [h]; rfl
theorem gF_of {K : Nat → Option ρ} (hs : Sh a = some (.inl ci)) (h : M.2.1 a k = some b) : gF Sh M a ci k K = K b := by unfold gF; rw [chk_pos hs, h]; rfl
theorem gI_of {K : Int32 → Option ρ} (hs : Sh a = some (.inl ci)) : gI Sh M a ci k K = K (M.1 a k) := by unfold gI; rw [chk_pos hs]
theorem pI_of {v : Int32} {K : Mm → Option ρ} (hs : Sh a = some (.inl ci)) : pI Sh M a ci k v K = K (uI M a k v) := by unfold pI; rw [chk_pos hs]
theorem tI_of {K : Int32 → Option ρ} : tI M a k K = K (M.1 a k) := rfl
theorem tL_of {K : Int64 → Option ρ} : tL M a k K = K (M.2.2 a k) := rfl
theorem qI_of {v : Int32} {K : Mm → Option ρ} : qI M a k v K = K (uI M a k v) := rfl
theorem aN_of {K : Int32 → Option ρ} (h : Sh a = some (.inr (ti, N))) : aN Sh a K = K (nI N) := by unfold aN; rw [h]; rfl
theorem bind_of {α : Type} {x : Option α} {v : α} {K : α → Option ρ} (h : x = some v) : x.bind K = K v := by rw [h]; rfl
theorem uI_same {v : Int32} : (uI M a k v).1 a k = v := by simp [uI, wI, upd]
theorem uI_row {v : Int32} (h : j ≠ k) : (uI M a k v).1 a j = M.1 a j := by simp [uI, wI, upd, h]
theorem uI_off {v : Int32} (h : b ≠ a) : (uI M a k v).1 b = M.1 b := by simp [uI, wI, h]
theorem uI_2 {v : Int32} : (uI M a k v).2 = M.2 := rfl
theorem wI_same {f : Nat → Int32} : (wI M a f).1 a = f := by simp [wI]
theorem wI_off {f : Nat → Int32} (h : b ≠ a) : (wI M a f).1 b = M.1 b := by simp [wI, h]
theorem iter_go {σ : Type} {n : Nat} {f : σ → Option (σ ⊕ ρ)} {s s' : σ} (h : f s = some (.inl s')) : iter (n + 1) f s = iter n f s' := by simp only [iter, h]
theorem iter_end {σ : Type} {n : Nat} {f : σ → Option (σ ⊕ ρ)} {s : σ} {r : ρ} (h : f s = some (.inr r)) : iter (n + 1) f s = some r := by simp only [iter, h]
theorem iter_go' {σ : Type} {n : Nat} (hn : 0 < n) {f : σ → Option (σ ⊕ ρ)} {s s' : σ} (h : f s = some (.inl s')) : iter n f s = iter (n - 1) f s' := by
  obtain ⟨m, rfl⟩ : ∃ m, n = m + 1 := ⟨n - 1, by omega⟩
  exact iter_go h
theorem iter_end' {σ : Type} {n : Nat} (hn : 0 < n) {f : σ → Option (σ ⊕ ρ)} {s : σ} {r : ρ} (h : f s = some (.inr r)) : iter n f s = some r := by
  obtain ⟨m, rfl⟩ : ∃ m, n = m + 1 := ⟨n - 1, by omega⟩
  exact iter_end h
end L2
/-- ints changed within S alone -/
def AgI (S : Nat → Prop) (M M' : Mm) : Prop := M'.2 = M.2 ∧ ∀ a, ¬ S a → M'.1 a = M.1 a
theorem AgI.rf {S : Nat → Prop} {M : Mm} : AgI S M M := ⟨rfl, fun _ _ => rfl⟩
theorem AgI.tr {S : Nat → Prop} {M M1 M2 : Mm} (h1 : AgI S M M1) (h2 : AgI S M1 M2) : AgI S M M2 := ⟨h2.1.trans h1.1, fun a h => (h2.2 a h).trans (h1.2 a h)⟩
theorem AgI.mono {S T : Nat → Prop} {M M1 : Mm} (h1 : AgI S M M1) (h : ∀ a, S a → T a) : AgI T M M1 := ⟨h1.1, fun a ha => h1.2 a (fun z => ha (h a z))⟩
theorem AgI.uI {S : Nat → Prop} {M : Mm} {a k : Nat} {v : Int32} (h : S a) : AgI S M (uI M a k v) := ⟨rfl, fun b hb => uI_off (fun e => hb (by rw [e]; exact h))⟩
theorem AgI.wI {S : Nat → Prop} {M : Mm} {a : Nat} {f : Nat → Int32} (h : S a) : AgI S M (wI M a f) := ⟨rfl, fun b hb => wI_off (fun e => hb (by rw [e]; exact h))⟩
theorem nI_add1 (a : Nat) : nI a + 1 = nI (a + 1) := nI_1 a
theorem clamp_nI {j : Nat} (h : j < 2 ^ 31) : (nI j).toNatClampNeg = j := nI_clamp h
/-! ===== words ===== -/
def chOK (c : Int32) : Prop := ((Int32.toUInt32 c) % 65536).toInt32 = c
theorem chOK.nar {c : Int32} (h : chOK c) : vp_nar .char c = c := by
  have e : vp_nar .char c = ((Int32.toUInt32 c) % 65536).toInt32 := by
    rw [vp_nar_char]
    simp
  rw [e]
  exact h
def WR (Sh : Sp) (M : Mm) (w cap : Nat) (l : List Int32) : Prop := Sh w = some (.inl 5) ∧ M.2.1 w 0 = some (w + 1) ∧ Sh (w + 1) = some (.inr (1, cap)) ∧ M.1 w 1 = nI l.length ∧ l.length ≤ cap ∧ (∀ k, k < l.length → M.1 (w + 1) k = l.getD k 0) ∧ ∀ c ∈ l, chOK c
theorem WR.ag {Sh : Sp} {M M' : Mm} {w cap : Nat} {l : List Int32} {S : Nat → Prop} (h : WR Sh M w cap l) (ha : AgI S M M') (h1 : ¬ S w) (h2 : ¬ S (w + 1)) : WR Sh M' w cap l := by
  obtain ⟨q1, q2, q3, q4, q5, q6, q7⟩ := h
  exact ⟨q1, by rw [ha.1]; exact q2, q3, by rw [ha.2 _ h1]; exact q4, q5, fun k hk => by rw [ha.2 _ h2]; exact q6 k hk, q7⟩
def jn (l l1 : List Int32) : List Int32 := if l = [] then l1 else if l1 = [] then l else l ++ 32 :: l1
/-- a character by an index -/
def lat (l : List Int32) (i : Int32) : Int32 := if i < 0 then -1 else l.getD i.toNatClampNeg (-1)
section WORDS
variable {Sh : Sp} {M : Mm} {w w1 cap cap1 n : Nat} {l l1 : List Int32}
theorem w_empty (h : WR Sh M w cap l) : ∃ M', fX5_empty n Sh M w = some M' ∧ WR Sh M' w cap [] ∧ AgI (fun a => a = w) M M' := by
  obtain ⟨q1, q2, q3, q4, q5, q6, q7⟩ := h
  refine ⟨uI M w 1 0, rfl, ⟨q1, q2, q3, uI_same, Nat.zero_le _, fun k hk => absurd hk (Nat.not_lt_zero k), fun c hc => absurd hc List.not_mem_nil⟩, AgI.uI rfl⟩
theorem w_put {c : Int32} (h : WR Sh M w cap l) (hc : chOK c) (hlt : l.length < cap) (hcap : cap < 2 ^ 31) : ∃ M', fX5_put n Sh M w c = some M' ∧ WR Sh M' w cap (l ++ [c]) ∧ AgI (fun a => a = w ∨ a = w + 1) M M' := by
  obtain ⟨q1, q2, q3, q4, q5, q6, q7⟩ := h
  refine ⟨uI (uI M (w + 1) l.length c) w 1 (nI (l.length + 1)), ?_, ⟨q1, q2, q3, ?_, ?_, ?_, ?_⟩, (AgI.uI (Or.inr rfl)).tr (AgI.uI (Or.inl rfl))⟩
  · unfold fX5_put
    simp only [tI_of, tF_of q2, aN_of q3, q4, lt_nI (show l.length < 2 ^ 31 by omega) hcap, if_pos hlt]
    rw [sC_nI q3 hlt hcap, show ((Int32.toUInt32 c) % 65536).toInt32 = c from hc, hc.nar]
    simp only [qI_of]
    rw [uI_off (by omega), q4, nI_add1]
  · rw [uI_same, List.length_append]; rfl
  · rw [List.length_append]; exact hlt
  · intro k hk
    rw [List.length_append, List.length_singleton] at hk
    rw [uI_off (by omega)]
    by_cases hkl : k = l.length
    · subst hkl
      rw [uI_same]
      simp
    · rw [uI_row hkl, q6 k (by omega)]
      simp [List.getD_eq_getElem?_getD, List.getElem?_append_left (show k < l.length by omega)]
  · intro d hd
    rcases List.mem_append.mp hd with hd | hd
    · exact q7 d hd
    · rw [List.mem_singleton.mp hd]; exact hc
theorem w_atI (h : WR Sh M w cap l) (hcap : cap < 2 ^ 31) (i : Int32) : fX5_at n Sh M w i = some (lat l i) := by
  obtain ⟨q1, q2, q3, q4, q5, q6, q7⟩ := h
  unfold fX5_at lat
  by_cases hi : i < 0
  · rw [if_pos hi, if_pos hi]
  · rw [if_neg hi, if_neg hi]
    obtain ⟨j, hj, rfl⟩ := nI_of hi
    simp only [tI_of, tF_of q2, aN_of q3, q4, lt_nI hj (show l.length < 2 ^ 31 by omega), lt_nI hj hcap, clamp_nI hj]
    by_cases hjl : j < l.length
    · rw [if_pos hjl, if_pos (by omega), aI_nI q3 (by omega) hcap, q6 j hjl]
      simp [List.getD_eq_getElem?_getD, hjl]
    · rw [if_neg hjl]
      simp [List.getD_eq_getElem?_getD, Nat.not_lt.mp hjl]
end WORDS
