/-! ===== LEVEL 2: words: matches, become, join ===== -/
theorem imin_nI {a b : Nat} (ha : a < 2 ^ 31) (hb : b < 2 ^ 31) (h : a ≤ b) : imin (nI a) (nI b) = nI a := by
  unfold imin
  simp only [lt_nI hb ha, if_neg (show ¬ b < a by omega)]
theorem getD_cpy {f g : Nat → Int32} {n k : Nat} (h : k < n) : va_cpy f g 0 0 n k = f k := by
  unfold va_cpy
  rw [if_pos ⟨Nat.zero_le _, by omega⟩]
  simp
section WORDS
variable {Sh : Sp} {M : Mm} {w w1 cap cap1 n : Nat} {l l1 : List Int32}
theorem w_become (h : WR Sh M w cap l) (h1 : WR Sh M w1 cap1 l1) (hne : w1 ≠ w) (hne2 : w1 + 1 ≠ w) (hne3 : w1 ≠ w + 1) (hle : l1.length ≤ cap) (hcap : cap < 2 ^ 31) : ∃ M', fX5_become n Sh M w w1 = some M' ∧ WR Sh M' w cap l1 ∧ AgI (fun a => a = w ∨ a = w + 1) M M' := by
  obtain ⟨q1, q2, q3, q4, q5, q6, q7⟩ := h
  obtain ⟨p1, p2, p3, p4, p5, p6, p7⟩ := h1
  have hl : l1.length < 2 ^ 31 := by omega
  refine ⟨wI (uI M w 1 (nI l1.length)) (w + 1) (va_cpy ((uI M w 1 (nI l1.length)).1 (w1 + 1)) ((uI M w 1 (nI l1.length)).1 (w + 1)) 0 0 l1.length), ?_, ⟨q1, q2, q3, ?_, hle, fun k hk => ?_, p7⟩, (AgI.uI (Or.inl rfl)).tr (AgI.wI (Or.inr rfl))⟩
  · unfold fX5_become
    simp only [gI_of p1, tF_of q2, aN_of q3, p4, imin_nI hl hcap hle, qI_of]
    rw [gF_of p1 (by rw [uI_2]; exact p2), tF_of (by rw [uI_2]; exact q2)]
    simp only [tI_of, uI_same]
    unfold aC
    rw [chk_pos ⟨cap1, cap, p3, q3, by decide, by decide, nI_pos hl, by rw [clamp_nI hl]; show 0 + _ ≤ _; omega, by rw [clamp_nI hl]; show 0 + _ ≤ _; omega⟩, clamp_nI hl]
    rfl
  · rw [wI_off (by omega), uI_same]
  · rw [wI_same, getD_cpy hk, uI_off hne2, p6 k hk]
theorem w_matches (h : WR Sh M w cap l) (h1 : WR Sh M w1 cap1 l1) (hcap : cap < 2 ^ 31) (hcap1 : cap1 < 2 ^ 31) (hn : l.length < n) : fX5_matches n Sh M w w1 = some (if l = l1 then 1 else 0) := by
  have hl : l.length < 2 ^ 31 := by have := h.2.2.2.2.1; omega
  have hl1 : l1.length < 2 ^ 31 := by have := h1.2.2.2.2.1; omega
  unfold fX5_matches
  simp only [tI_of, gI_of h1.1, h.2.2.2.1, h1.2.2.2.1, eq_nI hl hl1]
  by_cases he : l.length = l1.length
  · rw [if_pos he]
    unfold fX5_matches_15
    have key : ∀ (m j n : Nat), j + m = l.length → m < n → (∀ k, k < j → l.getD k 0 = l1.getD k 0) → iter n (fun s => fX5_matches_15b n Sh M w w1 s) (nI j) = some (if l = l1 then 1 else 0) → True := fun _ _ _ _ _ _ _ => trivial
    clear key
    have key : ∀ (m j k : Nat), j + m = l.length → m < k → (∀ q, q < j → l.getD q 0 = l1.getD q 0) → iter k (fun s => fX5_matches_15b n Sh M w w1 s) (nI j) = some (if l = l1 then 1 else 0) := by
      intro m
      induction m with
      | zero =>
        intro j k hj hk hq
        refine iter_end' hk ?_
        unfold fX5_matches_15b
        simp only [tI_of, h.2.2.2.1, lt_nI (show j < 2 ^ 31 by omega) hl]
        rw [if_neg (by omega), if_pos]
        apply List.ext_getElem he
        intro i h1 h2
        have := hq i (by omega)
        simpa [List.getD_eq_getElem?_getD, h1, h2] using this
      | succ m ih =>
        intro j k hj hk hq
        have hjl : j < l.length := by omega
        by_cases hx : l.getD j 0 = l1.getD j 0
        · rw [iter_go' (s' := nI (j + 1)) (by omega)]
          · exact ih (j + 1) (k - 1) (by omega) (by omega) (fun q hq2 => by
              by_cases e : q = j
              · rw [e]; exact hx
              · exact hq q (by omega))
          · unfold fX5_matches_15b
            simp only [tI_of, h.2.2.2.1, lt_nI (show j < 2 ^ 31 by omega) hl, if_pos hjl]
            rw [bind_of (w_atI h hcap _), chk_pos h1.1, bind_of (w_atI h1 hcap1 _), if_pos, nI_add1]
            unfold lat
            rw [if_neg (nI_pos (by omega)), if_neg (nI_pos (by omega)), clamp_nI (by omega)]
            simpa [List.getD_eq_getElem?_getD, hjl, show j < l1.length by omega] using hx
        · refine iter_end' (by omega) ?_
          unfold fX5_matches_15b
          simp only [tI_of, h.2.2.2.1, lt_nI (show j < 2 ^ 31 by omega) hl, if_pos hjl]
          rw [bind_of (w_atI h hcap _), chk_pos h1.1, bind_of (w_atI h1 hcap1 _), if_neg, if_neg (fun e => hx (by rw [e]))]
          unfold lat
          rw [if_neg (nI_pos (by omega)), if_neg (nI_pos (by omega)), clamp_nI (by omega)]
          simpa [List.getD_eq_getElem?_getD, hjl, show j < l1.length by omega] using hx
    exact key l.length 0 n (by omega) hn (fun q hq => absurd hq (Nat.not_lt_zero q))
  · rw [if_neg he, if_neg (fun e => he (by rw [e]))]
/-- the loop of join(Words) -/
theorem w_join22 (hcap : cap < 2 ^ 31) (hcap1 : cap1 < 2 ^ 31) (hne : w1 ≠ w) (hne2 : w1 + 1 ≠ w) (hne3 : w1 ≠ w + 1) : ∀ (m j k : Nat) (M : Mm) (l : List Int32), j + m = l1.length → m < k → WR Sh M w cap l → WR Sh M w1 cap1 l1 → l.length + m ≤ cap → ∃ M', iter k (fun s => fX5_join_22b n Sh w w1 s.2 s.1) (nI j, M) = some M' ∧ WR Sh M' w cap (l ++ l1.drop j) ∧ AgI (fun a => a = w ∨ a = w + 1) M M' := by
  intro m
  induction m with
  | zero =>
    intro j k M l hj hk h h1 hle
    have hl1 : l1.length < 2 ^ 31 := by have := h1.2.2.2.2.1; omega
    refine ⟨M, iter_end' hk ?_, by rw [List.drop_eq_nil_of_le (by omega), List.append_nil]; exact h, AgI.rf⟩
    unfold fX5_join_22b
    simp only [gI_of h1.1, h1.2.2.2.1, lt_nI (show j < 2 ^ 31 by omega) hl1]
    rw [if_neg (by omega)]
  | succ m ih =>
    intro j k M l hj hk h h1 hle
    have hl1 : l1.length < 2 ^ 31 := by have := h1.2.2.2.2.1; omega
    have hjl : j < l1.length := by omega
    obtain ⟨M1, e1, r1, a1⟩ := w_put (n := n) (c := l1[j]) h (h1.2.2.2.2.2.2 _ (List.getElem_mem hjl)) (by omega) hcap
    obtain ⟨M2, e2, r2, a2⟩ := ih (j + 1) (k - 1) M1 (l ++ [l1[j]]) (by omega) (by omega) r1 (h1.ag a1 (by omega) (by omega)) (by rw [List.length_append, List.length_singleton]; omega)
    refine ⟨M2, ?_, ?_, a1.tr a2⟩
    · rw [iter_go' (s' := (nI (j + 1), M1)) (by omega)]
      · exact e2
      · unfold fX5_join_22b
        simp only [gI_of h1.1, h1.2.2.2.1, lt_nI (show j < 2 ^ 31 by omega) hl1, if_pos hjl]
        have el : lat l1 (nI j) = l1[j] := by
          unfold lat
          rw [if_neg (nI_pos (by omega)), clamp_nI (by omega)]
          simp [List.getD_eq_getElem?_getD, hjl]
        rw [chk_pos h1.1, bind_of (w_atI h1 hcap1 _), el, bind_of e1, nI_add1]
    · rw [List.append_assoc] at r2
      rw [List.drop_eq_getElem_cons hjl]
      exact r2
theorem w_join (h : WR Sh M w cap l) (h1 : WR Sh M w1 cap1 l1) (hcap : cap < 2 ^ 31) (hcap1 : cap1 < 2 ^ 31) (hne : w1 ≠ w) (hne2 : w1 + 1 ≠ w) (hne3 : w1 ≠ w + 1) (hn : l1.length < n) (hle : (jn l l1).length ≤ cap) : ∃ M', fX5_join n Sh M w w1 = some M' ∧ WR Sh M' w cap (jn l l1) ∧ AgI (fun a => a = w ∨ a = w + 1) M M' := by
  have hl : l.length < 2 ^ 31 := by have := h.2.2.2.2.1; omega
  have hl1 : l1.length < 2 ^ 31 := by have := h1.2.2.2.2.1; omega
  unfold fX5_join
  simp only [tI_of, h.2.2.2.1, nI_le0 hl, gI_of h1.1, h1.2.2.2.1, nI_le0 hl1]
  unfold jn at hle ⊢
  by_cases e : l = []
  · subst e
    rw [if_pos rfl] at hle ⊢
    rw [if_pos (show ([] : List Int32).length = 0 from rfl)]
    unfold fX5_join_20 fX5_join_22
    obtain ⟨M', e1, r1, a1⟩ := w_join22 (n := n) hcap hcap1 hne hne2 hne3 l1.length 0 n M [] (by omega) hn h h1 (by simpa using hle)
    exact ⟨M', e1, by simpa using r1, a1⟩
  · have e0 : ¬ l.length = 0 := fun z => e (List.length_eq_zero_iff.mp z)
    rw [if_neg e] at hle ⊢
    rw [if_neg e0]
    by_cases e1 : l1 = []
    · subst e1
      rw [if_pos rfl] at hle ⊢
      rw [if_pos (show ([] : List Int32).length = 0 from rfl)]
      unfold fX5_join_20 fX5_join_22
      obtain ⟨M', e1, r1, a1⟩ := w_join22 (n := n) hcap hcap1 hne hne2 hne3 0 0 n M l rfl hn h h1 hle
      exact ⟨M', e1, by simpa using r1, a1⟩
    · have e2 : ¬ l1.length = 0 := fun z => e1 (List.length_eq_zero_iff.mp z)
      rw [if_neg e1] at hle ⊢
      rw [if_neg e2]
      simp only [List.length_append, List.length_cons] at hle
      obtain ⟨M1, x1, r1, a1⟩ := w_put (n := n) (c := 32) h (show chOK 32 from by unfold chOK; decide) (by omega) hcap
      rw [bind_of x1]
      unfold fX5_join_20 fX5_join_22
      obtain ⟨M', x2, r2, a2⟩ := w_join22 (n := n) hcap hcap1 hne hne2 hne3 l1.length 0 n M1 (l ++ [32]) (by omega) hn r1 (h1.ag a1 (by omega) (by omega)) (by simp only [List.length_append, List.length_singleton]; omega)
      refine ⟨M', x2, ?_, a1.tr a2⟩
      simpa using r2
/-- the loop of join(String) -/
theorem w_joins22 (hcap : cap < 2 ^ 31) {i : Nat} (hi : i < 9) : ∀ (m j k : Nat) (M : Mm) (l : List Int32), j + m = (bytS.getD i []).length → m < k → WR Sh M w cap l → l.length + m ≤ cap → ∃ M', iter k (fun s => fX5_join__22b n Sh w i s.2 s.1) (nI j, M) = some M' ∧ WR Sh M' w cap (l ++ (bytS.getD i []).drop j) ∧ AgI (fun a => a = w ∨ a = w + 1) M M' := by
  obtain ⟨hL, hL8, hby⟩ := bytS_c i hi
  have hch : ∀ c ∈ bytS.getD i [], chOK c := by
    have : ∀ i ∈ List.range 9, ∀ c ∈ bytS.getD i [], chOK c := by unfold chOK; decide +kernel
    exact this i (List.mem_range.mpr hi)
  intro m
  induction m with
  | zero =>
    intro j k M l hj hk h hle
    refine ⟨M, iter_end' hk ?_, by rw [List.drop_eq_nil_of_le (by omega), List.append_nil]; exact h, AgI.rf⟩
    unfold fX5_join__22b sLen
    simp only [chk_pos hi, show Int32.ofNat (lenS.getD i 0) = nI (lenS.getD i 0) from rfl, lt_nI (show j < 2 ^ 31 by omega) (show lenS.getD i 0 < 2 ^ 31 by omega)]
    rw [if_neg (by omega)]
  | succ m ih =>
    intro j k M l hj hk h hle
    have hjl : j < (bytS.getD i []).length := by omega
    obtain ⟨M1, e1, r1, a1⟩ := w_put (n := n) (c := (bytS.getD i [])[j]) h (hch _ (List.getElem_mem hjl)) (by omega) hcap
    obtain ⟨M2, e2, r2, a2⟩ := ih (j + 1) (k - 1) M1 (l ++ [(bytS.getD i [])[j]]) (by omega) (by omega) r1 (by rw [List.length_append, List.length_singleton]; omega)
    refine ⟨M2, ?_, ?_, a1.tr a2⟩
    · rw [iter_go' (s' := (nI (j + 1), M1)) (by omega)]
      · exact e2
      · unfold fX5_join__22b sLen sCh
        simp only [chk_pos hi, show Int32.ofNat (lenS.getD i 0) = nI (lenS.getD i 0) from rfl, lt_nI (show j < 2 ^ 31 by omega) (show lenS.getD i 0 < 2 ^ 31 by omega), hL, if_pos hjl, chk_pos (show i < 9 ∧ vp_in (nI j) (bytS.getD i []).length from ⟨hi, vp_in_nI hjl (by omega)⟩), clamp_nI (show j < 2 ^ 31 by omega)]
        have el : (bytS.getD i []).getD j 0 = (bytS.getD i [])[j] := by
          rw [List.getD_eq_getElem?_getD, List.getElem?_eq_getElem hjl]; rfl
        rw [el, bind_of e1, nI_add1]
        exact if_pos ((nI_ltI (by omega) (by omega)).mpr hjl)
    · rw [List.append_assoc] at r2
      rw [List.drop_eq_getElem_cons hjl]
      exact r2
theorem w_joins (h : WR Sh M w cap l) (hcap : cap < 2 ^ 31) {i : Nat} (hi : i < 9) (hn : 8 < n) (hle : (jn l (bytS.getD i [])).length ≤ cap) : ∃ M', fX5_join_ n Sh M w i = some M' ∧ WR Sh M' w cap (jn l (bytS.getD i [])) ∧ AgI (fun a => a = w ∨ a = w + 1) M M' := by
  obtain ⟨hL, hL8, hby⟩ := bytS_c i hi
  have hl : l.length < 2 ^ 31 := by have := h.2.2.2.2.1; omega
  unfold fX5_join_
  simp only [tI_of, h.2.2.2.1, nI_le0 hl]
  generalize hB : bytS.getD i [] = B at *
  unfold jn at hle ⊢
  by_cases e : l = []
  · subst e
    rw [if_pos rfl] at hle ⊢
    rw [if_pos (show ([] : List Int32).length = 0 from rfl)]
    unfold fX5_join__20 fX5_join__22
    obtain ⟨M', e1, r1, a1⟩ := w_joins22 (n := n) hcap hi B.length 0 n M [] (by rw [hB]; omega) (by omega) h (by simpa using hle)
    rw [hB] at r1
    exact ⟨M', e1, by simpa using r1, a1⟩
  · have e0 : ¬ l.length = 0 := fun z => e (List.length_eq_zero_iff.mp z)
    rw [if_neg e] at hle ⊢
    rw [if_neg e0]
    unfold sLen
    simp only [chk_pos hi, show Int32.ofNat (lenS.getD i 0) = nI (lenS.getD i 0) from rfl, nI_le0 (show lenS.getD i 0 < 2 ^ 31 by omega)]
    by_cases e1 : B = []
    · have e3 : lenS.getD i 0 = 0 := by rw [hL, e1]; rfl
      rw [if_pos e1] at hle ⊢
      rw [if_pos e3]
      unfold fX5_join__20 fX5_join__22
      obtain ⟨M', e1', r1, a1⟩ := w_joins22 (n := n) hcap hi 0 0 n M l (by rw [hB, e1]; rfl) (by omega) h hle
      rw [hB, e1] at r1
      exact ⟨M', e1', by simpa using r1, a1⟩
    · have e2 : ¬ lenS.getD i 0 = 0 := fun z => e1 (List.length_eq_zero_iff.mp (by omega))
      rw [if_neg e1] at hle ⊢
      rw [if_neg e2]
      simp only [List.length_append, List.length_cons] at hle
      obtain ⟨M1, x1, r1, a1⟩ := w_put (n := n) (c := 32) h (show chOK 32 from by unfold chOK; decide) (by omega) hcap
      rw [bind_of x1]
      unfold fX5_join__20 fX5_join__22
      obtain ⟨M', x2, r2, a2⟩ := w_joins22 (n := n) hcap hi B.length 0 n M1 (l ++ [32]) (by rw [hB]; omega) (by omega) r1 (by simp only [List.length_append, List.length_singleton]; omega)
      rw [hB] at r2
      refine ⟨M', x2, ?_, a1.tr a2⟩
      simpa using r2
end WORDS
