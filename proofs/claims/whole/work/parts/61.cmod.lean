/-! ===== LEVEL 2: the class: begin, attach, detach, drop ===== -/
theorem wI_upd {M : Mm} {a k : Nat} {f : Nat → Int32} {v : Int32} : uI (wI M a f) a k v = wI M a (upd f k v) := by
  unfold uI wI
  simp only [if_true]
  congr 1
  funext b
  by_cases e : b = a
  · rw [if_pos e, if_pos e]
  · rw [if_neg e, if_neg e, if_neg e]
theorem wI_self {M : Mm} {a : Nat} : wI M a (M.1 a) = M := by
  unfold wI
  have : (fun b => if b = a then M.1 a else M.1 b) = M.1 := by
    funext b
    by_cases e : b = a
    · rw [if_pos e, e]
    · rw [if_neg e]
  rw [this]
def shr (f : Nat → Int32) (c d x : Nat) : Int32 := if c < x ∧ x ≤ d then f (x - 1) else f x
theorem shr_start (f : Nat → Int32) (d : Nat) : shr f d d = f := by
  funext x
  exact if_neg (by omega)
theorem shr_step (f : Nat → Int32) (c d : Nat) (h : 0 < c) (hd : c ≤ d) : upd (shr f c d) c (shr f c d (c - 1)) = shr f (c - 1) d := by
  funext x
  unfold upd
  by_cases e : x = c
  · subst e
    rw [if_pos rfl]
    unfold shr
    rw [if_neg (by omega), if_pos (by omega)]
  · rw [if_neg e]
    unfold shr
    by_cases h2 : c < x ∧ x ≤ d
    · rw [if_pos h2, if_pos (by omega)]
    · rw [if_neg h2, if_neg (by omega)]
section CMOD
variable {Sh : Sp} {M M' : Mm} {t n : Nat} {A A' : At} {K K' : Kt} {W W' : Wt}
theorem CT.word {M1 : Mm} {o k j : Nat} {l : List Int32} (h : CT Sh M t A K W) (hk : (k = 0 ∧ o = t + 13 + 4 * j) ∨ (k = 1 ∧ o = t + 15 + 4 * j)) (r1 : WR Sh M1 o 8 l) (a1 : AgI (fun a => a = o ∨ a = o + 1) M M1) : CT Sh M1 t A K (sW W j k l) := by
  obtain ⟨h1, h2, h3, h4⟩ := h
  refine ⟨by rw [a1.1]; exact h1, fun i hi => ?_, fun i hi => ?_, h4.ag a1 (by omega) (by omega)⟩
  · obtain ⟨q1, q2, q3, q4, q5, q6, q7, q8, q9⟩ := h2 i hi
    have e : ∀ a, a ≤ t + 10 → M1.1 a = M.1 a := fun a ha => a1.2 a (by omega)
    exact ⟨by rw [e _ (by omega)]; exact q1, by rw [e _ (by omega)]; exact q2, by rw [e _ (by omega)]; exact q3, by rw [e _ (by omega)]; exact q4, by rw [e _ (by omega)]; exact q5, by rw [e _ (by omega)]; exact q6, fun s hs => by rw [e _ (by omega)]; exact q7 s hs, q8, fun k hk => by rw [e _ (by omega)]; exact q9 k hk⟩
  · obtain ⟨g0, g1⟩ := h3 i hi
    have k0 : o = t + 13 + 4 * i → WR Sh M1 (t + 13 + 4 * i) 8 l := fun e => by rw [← e]; exact r1
    have k1 : o = t + 15 + 4 * i → WR Sh M1 (t + 15 + 4 * i) 8 l := fun e => by rw [← e]; exact r1
    refine ⟨?_, ?_⟩
    · rcases hk with ⟨e1, e⟩ | ⟨e1, e⟩
      · by_cases ij : i = j
        · subst ij; subst e1; rw [sW_s]; exact k0 e
        · rw [sW_i ij]; exact g0.ag a1 (by omega) (by omega)
      · rw [sW_k (by omega)]; exact g0.ag a1 (by omega) (by omega)
    · rcases hk with ⟨e1, e⟩ | ⟨e1, e⟩
      · rw [sW_k (by omega)]; exact g1.ag a1 (by omega) (by omega)
      · by_cases ij : i = j
        · subst ij; subst e1; rw [sW_s]; exact k1 e
        · rw [sW_i ij]; exact g1.ag a1 (by omega) (by omega)
theorem CT.empty {o k : Nat} {j : Nat} (h : CT Sh M t A K W) (hj : j < 24) (hk : (k = 0 ∧ o = t + 13 + 4 * j) ∨ (k = 1 ∧ o = t + 15 + 4 * j)) : ∃ M', fX5_empty n Sh M o = some M' ∧ CT Sh M' t A K (sW W j k []) ∧ AgI (TS t) M M' := by
  have hw : ∃ l, WR Sh M o 8 l := by
    rcases hk with ⟨-, e⟩ | ⟨-, e⟩
    · exact ⟨_, by rw [e]; exact c_textW h hj⟩
    · exact ⟨_, by rw [e]; exact c_labelW h hj⟩
  obtain ⟨l, hw⟩ := hw
  obtain ⟨M1, e1, r1, a1⟩ := w_empty (n := n) hw
  exact ⟨M1, e1, h.word hk r1 (a1.mono (fun a z => Or.inl z)), a1.mono (fun a z => by unfold TS; omega)⟩
theorem c_begin (h : CT Sh M t A K W) (hn : 24 < n) {j : Nat} (hj : j < 24) (r : Int32) : ∃ M', fX4_begin n Sh M t (nI j) r = some M' ∧ CT Sh M' t (bgA A j r) (sK K j []) (bgW W j) ∧ AgI (TS t) M M' := by
  unfold fX4_begin fX4_begin_41
  rw [if_neg (nI_pos (show j < 2 ^ 31 by omega)), if_pos (lt24 hj), tF_of h.1.2.1.1, sI_nI h.1.2.2.1.1 hj (by decide)]
  have g1 : AgI (fun a => t + 1 ≤ a ∧ a ≤ t + 10) M (uI M (t + 1) j r) := agt (by omega)
  have h1 := h.ci g1 (ci0 h.2.1)
  generalize uI M (t + 1) j r = M1 at *
  rw [tF_of h1.1.2.1.2.1, sI_nI h1.1.2.2.1.2.1 hj (by decide)]
  have g2 : AgI (fun a => t + 1 ≤ a ∧ a ≤ t + 10) M1 (uI M1 (t + 2) j (-1)) := agt (by omega)
  have h2 := h1.ci g2 (ci1 h1.2.1)
  generalize uI M1 (t + 2) j (-1) = M2 at *
  rw [tF_of h2.1.2.1.2.2.1, sI_nI h2.1.2.2.1.2.2.1 hj (by decide)]
  have g3 : AgI (fun a => t + 1 ≤ a ∧ a ≤ t + 10) M2 (uI M2 (t + 3) j 0) := agt (by omega)
  have h3 := h2.ci g3 (ciN h2.2.1)
  generalize uI M2 (t + 3) j 0 = M3 at *
  rw [tF_of h3.1.2.1.2.2.2.2.1, sI_nI h3.1.2.2.1.2.2.2.2.1 hj (by decide)]
  have g4 : AgI (fun a => t + 1 ≤ a ∧ a ≤ t + 10) M3 (uI M3 (t + 5) j (-1)) := agt (by omega)
  have h4 := h3.ci g4 (ci2 h3.2.1)
  generalize uI M3 (t + 5) j (-1) = M4 at *
  have f4 : AgI (TS t) M M4 := agTS (((g1.tr g2).tr g3).tr g4)
  obtain ⟨M5, e5, h5, f5⟩ := iter_inv (f := fun s : Int32 × Mm => fX4_begin_41b n Sh t (nI j) r s.2 s.1) 5 (fun q s => s.1 = nI q ∧ CT Sh s.2 t (fun i s => if i = j ∧ 5 ≤ s ∧ s < 5 + q then 0 else sA (sA (sA A j 0 r) j 1 (-1)) j 2 (-1) i s) (sK K j []) W ∧ AgI (TS t) M s.2) (fun M' => CT Sh M' t (bgA A j r) (sK K j []) (bgW W j) ∧ AgI (TS t) M M') (fun q s hq hI => by
    obtain ⟨v, M5⟩ := s
    obtain ⟨rfl, hc, hf⟩ := hI
    dsimp only at hc hf ⊢
    unfold fX4_begin_41b fX4_begin_63
    by_cases h5 : q < 5
    · rw [if_pos (lt5 h5), tF_of hc.1.2.1.2.2.2.2.2.1, mul5, sI_nI hc.1.2.2.1.2.2.2.2.2.1 (by omega) (by decide)]
      refine Or.inl ⟨h5, _, rfl, nI_add1 q, (hc.ci (agt (by omega)) (cis h5 hc.2.1)).cong (fun i hi s hs => ?_) (fun _ _ => rfl) (fun _ _ => ⟨rfl, rfl⟩), hf.tr (AgI.uI (by unfold TS; omega))⟩
      by_cases c1 : i = j ∧ 5 ≤ s ∧ s < 5 + (q + 1)
      · rw [if_pos c1]
        by_cases c2 : s = 5 + q
        · rw [c1.1, c2, sA_s]
        · rw [sA_k c2, if_pos ⟨c1.1, by omega⟩]
      · rw [if_neg c1]
        by_cases c3 : i = j
        · exact ((sA_k (by omega)).trans (if_neg (by omega))).symm
        · exact ((sA_i c3).trans (if_neg (fun z => c3 z.1))).symm
    · have q5 : q = 5 := by omega
      subst q5
      rw [if_neg (by decide), tF_of hc.1.2.1.2.2.2.2.2.2.1, aR_nI hc.1.2.2.1.2.2.2.2.2.2.1 hj (by decide) (hc.1.2.2.2 j hj).1]
      obtain ⟨M6, e6, h6, f6⟩ := hc.empty (n := n) (k := 0) hj (Or.inl ⟨rfl, rfl⟩)
      rw [chk_pos (c_textW hc hj).1, bind_of e6, tF_of h6.1.2.1.2.2.2.2.2.2.2.1, aR_nI h6.1.2.2.1.2.2.2.2.2.2.2.1 hj (by decide) (h6.1.2.2.2 j hj).2]
      obtain ⟨M7, e7, h7, f7⟩ := h6.empty (n := n) (k := 1) hj (Or.inr ⟨rfl, rfl⟩)
      rw [chk_pos (c_labelW h6 hj).1, bind_of e7, tF_of h7.1.2.1.2.2.2.2.2.2.2.2.1, sI_nI h7.1.2.2.1.2.2.2.2.2.2.2.2.1 hj (by decide)]
      have h8 := h7.ci (agt (M := M7) (k := j) (v := 0) (show t + 1 ≤ t + 9 ∧ t + 9 ≤ t + 10 by omega)) (ci3 h7.2.1)
      rw [tF_of h8.1.2.1.2.2.2.2.2.2.2.2.2.1, sI_nI h8.1.2.2.1.2.2.2.2.2.2.2.2.2 hj (by decide)]
      have h9 := h8.ci (agt (M := uI M7 (t + 9) j 0) (k := j) (v := -1) (show t + 1 ≤ t + 10 ∧ t + 10 ≤ t + 10 by omega)) (ci4 h8.2.1)
      refine Or.inr ⟨_, rfl, h9.cong (fun i hi s hs => ?_) (fun _ _ => rfl) (fun i hi => ?_), ((hf.tr f6).tr f7).tr ((AgI.uI (by unfold TS; omega)).tr (AgI.uI (by unfold TS; omega)))⟩
      · unfold bgA
        by_cases c3 : i = j
        · subst c3
          rw [if_pos rfl]
          unfold bgv sA
          rcases (by omega : s = 0 ∨ s = 1 ∨ s = 2 ∨ s = 3 ∨ s = 4 ∨ (5 ≤ s ∧ s < 5 + 5)) with e | e | e | e | e | e
          · subst e; simp
          · subst e; simp
          · subst e; simp
          · subst e; simp
          · subst e; simp
          · have n0 : s ≠ 0 := by omega
            have n1 : s ≠ 1 := by omega
            have n2 : s ≠ 2 := by omega
            have n3 : s ≠ 3 := by omega
            have n4 : s ≠ 4 := by omega
            simp [n0, n1, n2, n3, n4, e.1, e.2]
        · rw [if_neg c3, sA_i c3, sA_i c3, if_neg (fun z => c3 z.1), sA_i c3, sA_i c3, sA_i c3]
      · unfold bgW sW
        by_cases c3 : i = j
        · subst c3; simp
        · simp [c3]) (show 5 < n by omega) (s := (0, M4)) ⟨rfl, h4.cong (fun i hi s hs => by rw [if_neg (by omega)]) (fun _ _ => rfl) (fun _ _ => ⟨rfl, rfl⟩), f4⟩
  exact ⟨M5, e5, h5, f5⟩
theorem c_attach (h : CT Sh M t A K W) (hn : 24 < n) {a p pos : Nat} (ha : live A a) (hp : live A p) (hpos : pos ≤ (K p).length) (hlen : (K p).length < 24) : ∃ M', fX4_attach n Sh M t (nI a) (nI p) (nI pos) = some M' ∧ CT Sh M' t (sA A a 1 (nI p)) (sK K p (ins (K p) pos a)) W ∧ AgI (TS t) M M' := by
  unfold fX4_attach fX4_attach_51
  rw [bind_of (c_kidCount h hp.1), bind_of (c_has h _), i0 ((isN_nI ha.lt).mpr ha), bind_of (c_has h _), i0 ((isN_nI hp.lt).mpr hp), if_neg (nI_pos (by omega)), if_pos ((nI_leI (by omega) (by omega)).mpr hpos), if_pos (lt24 hlen)]
  have hpl := hp.1
  have hal := ha.1
  let X : Nat → Mm := fun q => wI M (t + 4) (shr (M.1 (t + 4)) (24 * p + ((K p).length - q)) (24 * p + (K p).length))
  have refs : ∀ q, (X q).2 = M.2 := fun q => rfl
  have hX4 : ∀ q, (X q).1 (t + 4) = shr (M.1 (t + 4)) (24 * p + ((K p).length - q)) (24 * p + (K p).length) := fun q => wI_same
  refine ⟨_, iter_seq (N := (K p).length - pos) (r := uI (uI (uI (X ((K p).length - pos)) (t + 4) (24 * p + pos) (nI a)) (t + 3) p (nI ((K p).length + 1))) (t + 2) a (nI p)) (fun q => (nI ((K p).length - q), X q)) (fun q hq => ?_) ?_ (by omega) ?_, ?_, ?_⟩
  · unfold fX4_attach_51b
    dsimp only
    rw [if_neg (fun z => absurd ((nI_leI (by omega) (by omega)).mp z) (by omega))]
    rw [tF_of (show (X q).2.1 t 3 = some (t + 4) from h.1.2.1.2.2.2.1), tF_of (show (X q).2.1 t 3 = some (t + 4) from h.1.2.1.2.2.2.1)]
    rw [show nI p * 24 + nI ((K p).length - q) - 1 = nI (24 * p + ((K p).length - q) - 1) from by rw [mul24, nI_sub1 (by omega)], mul24, aI_nI h.1.2.2.1.2.2.2.1 (by omega) (by decide), sI_nI h.1.2.2.1.2.2.2.1 (by omega) (by decide), hX4, nI_dec (by omega)]
    have e1 : uI (X q) (t + 4) (24 * p + ((K p).length - q)) (shr (M.1 (t + 4)) (24 * p + ((K p).length - q)) (24 * p + (K p).length) (24 * p + ((K p).length - q) - 1)) = X (q + 1) := by
      show uI (wI M (t + 4) _) (t + 4) _ _ = wI M (t + 4) _
      rw [wI_upd, shr_step _ _ _ (by omega) (by omega), show 24 * p + ((K p).length - q) - 1 = 24 * p + ((K p).length - (q + 1)) from by omega]
    rw [e1, show (K p).length - q - 1 = (K p).length - (q + 1) from by omega]
  · unfold fX4_attach_51b fX4_attach_85
    dsimp only
    rw [show (K p).length - ((K p).length - pos) = pos from by omega, if_pos (Int32.le_refl _)]
    rw [tF_of (show (X ((K p).length - pos)).2.1 t 3 = some (t + 4) from h.1.2.1.2.2.2.1), mul24, sI_nI h.1.2.2.1.2.2.2.1 (by omega) (by decide)]
    rw [tF_of (show (uI (X ((K p).length - pos)) (t + 4) (24 * p + pos) (nI a)).2.1 t 2 = some (t + 3) from h.1.2.1.2.2.1), aI_nI h.1.2.2.1.2.2.1 hpl (by decide), sI_nI h.1.2.2.1.2.2.1 hpl (by decide)]
    rw [tF_of (show (uI (uI (X ((K p).length - pos)) (t + 4) (24 * p + pos) (nI a)) (t + 3) p _).2.1 t 1 = some (t + 2) from h.1.2.1.2.1), sI_nI h.1.2.2.1.2.1 hal (by decide)]
    rw [uI_off (show t + 3 ≠ t + 4 by omega), show (X ((K p).length - pos)).1 (t + 3) = M.1 (t + 3) from wI_off (by omega), (h.2.1 p hpl).2.2.1, nI_add1]
    rfl
  · show (nI (K p).length, M) = (nI ((K p).length - 0), wI M (t + 4) _)
    rw [Nat.sub_zero, shr_start, wI_self]
  · have ag : AgI (fun a => t + 1 ≤ a ∧ a ≤ t + 10) M (uI (uI (uI (X ((K p).length - pos)) (t + 4) (24 * p + pos) (nI a)) (t + 3) p (nI ((K p).length + 1))) (t + 2) a (nI p)) := (((AgI.wI (by omega)).tr (AgI.uI (by omega))).tr (AgI.uI (by omega))).tr (AgI.uI (by omega))
    refine h.ci ag (fun i hi => ?_)
    have ho : ∀ b, b ≠ t + 2 → b ≠ t + 3 → b ≠ t + 4 → (uI (uI (uI (X ((K p).length - pos)) (t + 4) (24 * p + pos) (nI a)) (t + 3) p (nI ((K p).length + 1))) (t + 2) a (nI p)).1 b = M.1 b := fun b x1 x2 x3 => by rw [uI_off x1, uI_off x2, uI_off x3]; exact wI_off x3
    obtain ⟨q1, q2, q3, q4, q5, q6, q7, q8, q9⟩ := h.2.1 i hi
    refine ⟨by rw [ho _ (by omega) (by omega) (by omega), sA_k (by decide)]; exact q1, ?_, ?_, by rw [ho _ (by omega) (by omega) (by omega), sA_k (by decide)]; exact q4, by rw [ho _ (by omega) (by omega) (by omega), sA_k (by decide)]; exact q5, by rw [ho _ (by omega) (by omega) (by omega), sA_k (by decide)]; exact q6, fun s hs => by rw [ho _ (by omega) (by omega) (by omega), sA_k (by omega)]; exact q7 s hs, ?_, fun k hk => ?_⟩
    · by_cases e : i = a
      · subst e; rw [uI_same, sA_s]
      · rw [uI_row e, sA_i e, uI_off (by omega), uI_off (by omega)]
        rw [show (X ((K p).length - pos)).1 (t + 2) = M.1 (t + 2) from wI_off (by omega)]
        exact q2
    · rw [uI_off (by omega)]
      by_cases e : i = p
      · subst e; rw [uI_same, sK_s, ins_len hpos]
      · rw [uI_row e, sK_i e, uI_off (by omega), show (X ((K p).length - pos)).1 (t + 3) = M.1 (t + 3) from wI_off (by omega)]
        exact q3
    · by_cases e : i = p
      · subst e; rw [sK_s, ins_len hpos]; omega
      · rw [sK_i e]; exact q8
    · rw [uI_off (by omega), uI_off (by omega)]
      have hx4 : (X ((K p).length - pos)).1 (t + 4) = shr (M.1 (t + 4)) (24 * p + pos) (24 * p + (K p).length) := by rw [hX4, show (K p).length - ((K p).length - pos) = pos from by omega]
      by_cases e : i = p
      · subst e
        rw [sK_s] at hk ⊢
        rw [ins_len hpos] at hk
        rw [List.getD_eq_getElem?_getD, ins_get hpos]
        by_cases c1 : k < pos
        · rw [if_pos c1, uI_row (by omega), hx4]
          unfold shr
          rw [if_neg (by omega), q9 k (by omega), List.getD_eq_getElem?_getD]
        · rw [if_neg c1]
          by_cases c2 : k = pos
          · subst c2; rw [if_pos rfl, uI_same]; rfl
          · rw [if_neg c2, uI_row (by omega), hx4]
            unfold shr
            rw [if_pos (by omega), show 24 * i + k - 1 = 24 * i + (k - 1) from by omega, q9 (k - 1) (by omega), List.getD_eq_getElem?_getD]
      · rw [sK_i e] at hk ⊢
        rw [uI_row (by omega), hx4]
        unfold shr
        rw [if_neg (by omega)]
        exact q9 k hk
  · exact ((((AgI.wI (by unfold TS; omega)).tr (AgI.uI (by unfold TS; omega))).tr (AgI.uI (by unfold TS; omega))).tr (AgI.uI (by unfold TS; omega)))
theorem c_place' (h : CT Sh M t A K W) (hn : 24 < n) {a q : Nat} (ha : a < 24) (e : A a 1 = nI q) (hq : q < 24) (hk : a ∈ K q) (hd : (K q).Nodup) (hb : ∀ x ∈ K q, x < 24) : fX4_placeOf n Sh M t (nI a) = some (nI ((K q).idxOf a)) := by
  unfold fX4_placeOf fX4_placeOf_8
  rw [bind_of (c_parentOf h _), rd_nI ha, e]
  obtain ⟨hr, he⟩ := List.getElem?_eq_some_iff.mp (get_idx hk)
  have hl := (h.2.1 q hq).2.2.2.2.2.2.2.1
  obtain ⟨r, e', q'⟩ := iter_inv (f := fun s => fX4_placeOf_8b n Sh M t (nI a) (nI q) s) 24 (fun j s => s = nI j ∧ j ≤ (K q).idxOf a) (fun r => r = nI ((K q).idxOf a)) (fun j s hj hI => by
    obtain ⟨rfl, hI⟩ := hI
    unfold fX4_placeOf_8b
    have hjl : j < (K q).length := by omega
    rw [bind_of (c_kidCount h hq), if_pos ((nI_ltI (by omega) (by omega)).mpr hjl), bind_of (c_kidAt h hq _), kAt_nI (by omega), List.getElem?_eq_getElem hjl]
    by_cases hx : (K q)[j] = a
    · rw [hx, if_pos (show oi (some a) = nI a from rfl)]
      refine Or.inr ⟨_, rfl, ?_⟩
      rw [idx_get hd (by rw [List.getElem?_eq_getElem hjl, hx])]
    · have hlv := hb (K q)[j] (List.getElem_mem hjl)
      rw [if_neg (show ¬ oi (some (K q)[j]) = nI a from fun z => hx (nI_inj (by omega) (by omega) z))]
      refine Or.inl ⟨by omega, _, rfl, nI_add1 j, ?_⟩
      rcases Nat.lt_or_eq_of_le hI with z | z
      · exact z
      · subst z; exact absurd he hx) hn (s := 0) ⟨rfl, Nat.zero_le _⟩
  rw [e', q']
theorem c_detach (h : CT Sh M t A K W) (hn : 24 < n) {a q : Nat} (ha : a < 24) (e : A a 1 = nI q) (hq : live A q) (hk : a ∈ K q) (hd : (K q).Nodup) (hb : ∀ x ∈ K q, x < 24) : ∃ M', fX4_detach n Sh M t (nI a) = some M' ∧ CT Sh M' t (sA A a 1 (-1)) (sK K q ((K q).eraseIdx ((K q).idxOf a))) W ∧ AgI (TS t) M M' := by
  unfold fX4_detach fX4_detach_29
  have hql := hq.1
  have hl := (h.2.1 q hql).2.2.2.2.2.2.2.1
  obtain ⟨hr, he⟩ := List.getElem?_eq_some_iff.mp (get_idx hk)
  have hdl := del_len hk
  rw [bind_of (c_parentOf h _), rd_nI ha, e, bind_of (c_has h _), i0 ((isN_nI hq.lt).mpr hq), bind_of (c_place' h hn ha e hql hk hd hb), nI_add1]
  generalize hR : (K q).idxOf a = R at *
  let X : Nat → Mm := fun j => wI M (t + 4) (shl (M.1 (t + 4)) (24 * q + R) (24 * q + (R + 1 + j)))
  have hX4 : ∀ j, (X j).1 (t + 4) = shl (M.1 (t + 4)) (24 * q + R) (24 * q + (R + 1 + j)) := fun j => wI_same
  have hkc : ∀ j, fX4_kidCount n Sh (X j) t (nI q) = some (nI (K q).length) := fun j => by
    unfold fX4_kidCount
    rw [if_neg (nI_pos (by omega)), if_pos (lt24 hql), tF_of (show (X j).2.1 t 2 = some (t + 3) from h.1.2.1.2.2.1), aI_nI h.1.2.2.1.2.2.1 hql (by decide), show (X j).1 (t + 3) = M.1 (t + 3) from wI_off (by omega), (h.2.1 q hql).2.2.1]
  refine ⟨_, iter_seq (N := (K q).length - (R + 1)) (r := uI (uI (X ((K q).length - (R + 1))) (t + 3) q (nI ((K q).length - 1))) (t + 2) a (-1)) (fun j => (nI (R + 1 + j), X j)) (fun j hj => ?_) ?_ (by omega) ?_, ?_, ?_⟩
  · unfold fX4_detach_29b
    dsimp only
    rw [bind_of (hkc j), if_pos ((nI_ltI (by omega) (by omega)).mpr (by omega)), tF_of (show (X j).2.1 t 3 = some (t + 4) from h.1.2.1.2.2.2.1), tF_of (show (X j).2.1 t 3 = some (t + 4) from h.1.2.1.2.2.2.1), mul24, aI_nI h.1.2.2.1.2.2.2.1 (by omega) (by decide), nI_sub1 (by omega), sI_nI h.1.2.2.1.2.2.2.1 (by omega) (by decide), hX4, shl_ge, nI_add1]
    have e1 : uI (X j) (t + 4) (24 * q + (R + 1 + j) - 1) (M.1 (t + 4) (24 * q + (R + 1 + j))) = X (j + 1) := by
      show uI (wI M (t + 4) _) (t + 4) _ _ = wI M (t + 4) _
      rw [wI_upd, shl_step _ _ _ (by omega)]
      rfl
    rw [e1]
    rfl
  · unfold fX4_detach_29b fX4_detach_65
    dsimp only
    rw [bind_of (hkc _), show R + 1 + ((K q).length - (R + 1)) = (K q).length from by omega, if_neg (fun z => absurd ((nI_ltI (by omega) (by omega)).mp z) (by omega))]
    rw [tF_of (show (X ((K q).length - (R + 1))).2.1 t 2 = some (t + 3) from h.1.2.1.2.2.1), aI_nI h.1.2.2.1.2.2.1 hql (by decide), sI_nI h.1.2.2.1.2.2.1 hql (by decide)]
    rw [tF_of (show (uI (X ((K q).length - (R + 1))) (t + 3) q _).2.1 t 1 = some (t + 2) from h.1.2.1.2.1), sI_nI h.1.2.2.1.2.1 ha (by decide)]
    rw [show (X ((K q).length - (R + 1))).1 (t + 3) = M.1 (t + 3) from wI_off (by omega), (h.2.1 q hql).2.2.1, nI_sub1 (by omega)]
    rfl
  · show (nI (R + 1), M) = (nI (R + 1 + 0), wI M (t + 4) _)
    rw [show 24 * q + (R + 1 + 0) = 24 * q + R + 1 from by omega, shl_start, wI_self]
  · have ag : AgI (fun a => t + 1 ≤ a ∧ a ≤ t + 10) M (uI (uI (X ((K q).length - (R + 1))) (t + 3) q (nI ((K q).length - 1))) (t + 2) a (-1)) := ((AgI.wI (by omega)).tr (AgI.uI (by omega))).tr (AgI.uI (by omega))
    refine h.ci ag (fun i hi => ?_)
    have ho : ∀ b, b ≠ t + 2 → b ≠ t + 3 → b ≠ t + 4 → (uI (uI (X ((K q).length - (R + 1))) (t + 3) q (nI ((K q).length - 1))) (t + 2) a (-1)).1 b = M.1 b := fun b x1 x2 x3 => by rw [uI_off x1, uI_off x2]; exact wI_off x3
    obtain ⟨q1, q2, q3, q4, q5, q6, q7, q8, q9⟩ := h.2.1 i hi
    refine ⟨by rw [ho _ (by omega) (by omega) (by omega), sA_k (by decide)]; exact q1, ?_, ?_, by rw [ho _ (by omega) (by omega) (by omega), sA_k (by decide)]; exact q4, by rw [ho _ (by omega) (by omega) (by omega), sA_k (by decide)]; exact q5, by rw [ho _ (by omega) (by omega) (by omega), sA_k (by decide)]; exact q6, fun s hs => by rw [ho _ (by omega) (by omega) (by omega), sA_k (by omega)]; exact q7 s hs, ?_, fun k hk => ?_⟩
    · by_cases e : i = a
      · subst e; rw [uI_same, sA_s]
      · rw [uI_row e, sA_i e, uI_off (by omega)]
        rw [show (X ((K q).length - (R + 1))).1 (t + 2) = M.1 (t + 2) from wI_off (by omega)]
        exact q2
    · rw [uI_off (by omega)]
      by_cases e : i = q
      · subst e; rw [uI_same, sK_s]; congr 1; omega
      · rw [uI_row e, sK_i e, show (X ((K q).length - (R + 1))).1 (t + 3) = M.1 (t + 3) from wI_off (by omega)]
        exact q3
    · by_cases e : i = q
      · subst e; rw [sK_s]; omega
      · rw [sK_i e]; exact q8
    · rw [uI_off (by omega), uI_off (by omega), hX4, show R + 1 + ((K q).length - (R + 1)) = (K q).length from by omega]
      unfold shl
      by_cases e : i = q
      · subst e
        rw [sK_s] at hk ⊢
        rw [List.getD_eq_getElem?_getD, List.getElem?_eraseIdx]
        by_cases c1 : k < R
        · rw [if_pos c1, if_neg (by omega), q9 k (by omega), List.getD_eq_getElem?_getD]
        · rw [if_neg c1, if_pos (by omega), show 24 * i + k + 1 = 24 * i + (k + 1) from by omega, q9 (k + 1) (by omega), List.getD_eq_getElem?_getD]
      · rw [sK_i e] at hk ⊢
        rw [if_neg (by omega)]
        exact q9 k hk
  · exact ((AgI.wI (by unfold TS; omega)).tr (AgI.uI (by unfold TS; omega))).tr (AgI.uI (by unfold TS; omega))
end CMOD
