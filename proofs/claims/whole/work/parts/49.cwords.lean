/-! ===== LEVEL 2: the class's words ===== -/
theorem trav_part {A : At} {K : Kt} {W : Wt} (hW : WF A K) {k : Nat} (hk : live A k) : trav K (ownW A W) (dsW A W) k = cif (outP A k) [] (partW A K W k) := by
  rw [trav_eq hW hk]
  unfold partW contW
  by_cases ho : outP A k
  · have o1 : ownW A W k = [] := cif_pos ho
    have d1 : dsW A W k = false := cB_neg (fun z => z.1 ho)
    rw [o1, d1, cif_pos ho]; rfl
  · rw [cif_neg ho]
    by_cases hl : W k 1 = []
    · have hl' : ¬ W k 1 ≠ [] := fun z => z hl
      rw [cif_neg hl']
      by_cases ht : txtP A k
      · have o1 : ownW A W k = [W k 0] := (cif_neg ho).trans ((cif_neg hl').trans (cif_pos ht))
        have d1 : dsW A W k = false := cB_neg (fun z => z.2.2.1 ht)
        rw [o1, d1, cif_pos ht]; rfl
      · have o1 : ownW A W k = [] := (cif_neg ho).trans ((cif_neg hl').trans (cif_neg ht))
        rw [o1, cif_neg ht]
        by_cases h4 : A k 0 = 4
        · have d1 : dsW A W k = false := cB_neg (fun z => z.2.2.2 h4)
          rw [cif_pos h4, d1]; rfl
        · have d1 : dsW A W k = true := cB_pos ⟨ho, hl, ht, h4⟩
          rw [cif_neg h4, d1]; rfl
    · have o1 : ownW A W k = [W k 1] := (cif_neg ho).trans (cif_pos hl)
      have d1 : dsW A W k = false := cB_neg (fun z => hl z.2.1)
      rw [o1, d1, cif_pos hl]; rfl
theorem flatMap_split {α β : Type} (f : α → List β) (L : List α) (j : Nat) (h : j < L.length) : L.flatMap f = (L.take j).flatMap f ++ (f L[j] ++ (L.drop (j + 1)).flatMap f) := by
  have e : L.flatMap f = (L.take j ++ L[j] :: L.drop (j + 1)).flatMap f := by rw [← List.drop_eq_getElem_cons h, List.take_append_drop]
  rw [e, List.flatMap_append, List.flatMap_cons]
theorem le24 {k : Nat} (h : k ≤ 24) : nI k ≤ 24 := show nI k ≤ nI 24 from (nI_leI (by omega) (by decide)).mpr h
section CWORDS
variable {Sh : Sp} {M : Mm} {t o cap n : Nat} {A : At} {K : Kt} {W : Wt}
theorem CT.ag {M' : Mm} {S : Nat → Prop} (h : CT Sh M t A K W) (ha : AgI S M M') (hS : ∀ a, t ≤ a → a < t + 109 → ¬ S a) : CT Sh M' t A K W := by
  obtain ⟨h1, h2, h3, h4⟩ := h
  have e : ∀ a, t ≤ a → a < t + 109 → M'.1 a = M.1 a := fun a x y => ha.2 a (hS a x y)
  refine ⟨by rw [ha.1]; exact h1, fun i hi => ?_, fun i hi => ⟨((h3 i hi).1).ag ha (hS _ (by omega) (by omega)) (hS _ (by omega) (by omega)), ((h3 i hi).2).ag ha (hS _ (by omega) (by omega)) (hS _ (by omega) (by omega))⟩, h4.ag ha (hS _ (by omega) (by omega)) (hS _ (by omega) (by omega))⟩
  rw [e (t + 1) (by omega) (by omega), e (t + 2) (by omega) (by omega), e (t + 3) (by omega) (by omega), e (t + 5) (by omega) (by omega), e (t + 9) (by omega) (by omega), e (t + 10) (by omega) (by omega), e (t + 6) (by omega) (by omega), e (t + 4) (by omega) (by omega)]
  exact h2 i hi
theorem CT.out {M' : Mm} (h : CT Sh M t A K W) (ha : AgI (fun a => a = o ∨ a = o + 1) M M') (ho : t + 109 ≤ o ∨ o + 2 ≤ t) : CT Sh M' t A K W := h.ag ha (fun a x y z => by omega)
theorem c_addPart (hW : WF A K) (hA : WA A W) (hn : 24 < n) (hcap : cap < 2 ^ 31) (ho : t + 109 ≤ o ∨ o + 2 ≤ t) {rec : Mm → Nat → Int32 → Nat → Int32 → Option Mm} {a : Nat} {k : Int32} {l : List Int32} (hrec : ∀ (M : Mm), CT Sh M t A K W → WR Sh M o cap l → (jns l (contW A K W a)).length ≤ cap → ∃ M', rec M t (nI a) o k = some M' ∧ WR Sh M' o cap (jns l (contW A K W a)) ∧ AgI (fun a => a = o ∨ a = o + 1) M M')
    (h : CT Sh M t A K W) (hw : WR Sh M o cap l) (ha : live A a) (hle : (jns l (partW A K W a)).length ≤ cap) : ∃ M', fX4_addPart rec n Sh M t (nI a) o k = some M' ∧ WR Sh M' o cap (jns l (partW A K W a)) ∧ AgI (fun a => a = o ∨ a = o + 1) M M' := by
  have h8 := (hA a ha).2.1
  have hlb := c_labelW h ha.1
  have := ha.1
  unfold fX4_addPart
  rw [bind_of (c_labelOf h ha.1), bind_of (c_labelOf h ha.1), gI_of hlb.1, hlb.2.2.2.1]
  simp only [nI_le0 (show (W a 1).length < 2 ^ 31 by omega), len0]
  unfold partW at hle ⊢
  by_cases h1 : W a 1 = []
  · rw [cif_neg (fun z => z h1)] at hle ⊢
    rw [if_pos h1]
    obtain ⟨M', e, r, w⟩ := hrec M h hw hle
    rw [bind_of e]
    exact ⟨M', rfl, r, w⟩
  · rw [cif_pos h1] at hle ⊢
    rw [if_neg h1, chk_pos hw.1]
    obtain ⟨M', e, r, w⟩ := w_join (n := n) hw hlb hcap (by decide) (by omega) (by omega) (by omega) (by omega) hle
    rw [bind_of e]
    exact ⟨M', rfl, r, w⟩
theorem c_addContent (hW : WF A K) (hA : WA A W) (hn : 24 < n) (hcap : cap < 2 ^ 31) (ho : t + 109 ≤ o ∨ o + 2 ≤ t) : ∀ (d a k : Nat) (l : List Int32) (M : Mm), live A a → 25 ≤ d + dp A a → k + 1 ≤ dp A a → CT Sh M t A K W → WR Sh M o cap l → (jns l (contW A K W a)).length ≤ cap → ∃ M', fX4_addContent n d Sh M t (nI a) o (nI k) = some M' ∧ WR Sh M' o cap (jns l (contW A K W a)) ∧ AgI (fun a => a = o ∨ a = o + 1) M M' := by
  intro d
  induction d with
  | zero => intro a k l M ha hd; have := dp_le hW ha; omega
  | succ d ih =>
    intro a k l M ha hd hk h hw hle
    have hdp := dp_le hW ha
    have ha24 := ha.1
    show ∃ M', fX4_addContent_body (fX4_addContent n d Sh) n Sh M t (nI a) o (nI k) = some M' ∧ _
    unfold fX4_addContent_body
    rw [bind_of (c_roleOf h _), rd_nI ha.1, if_pos (le24 (show k ≤ 24 by omega))]
    unfold contW at hle ⊢
    have txt : txtP A a → (jns l [W a 0]).length ≤ cap → ∃ M', fX4_addContent_32 (fX4_addContent n d Sh) n Sh t (nI a) o (nI k) M = some M' ∧ WR Sh M' o cap (jns l [W a 0]) ∧ AgI (fun a => a = o ∨ a = o + 1) M M' := by
      intro _ hle
      unfold fX4_addContent_32
      rw [bind_of (c_textOf h ha.1), chk_pos hw.1]
      obtain ⟨M', e, r, w⟩ := w_join (n := n) hw (c_textW h ha.1) hcap (by decide) (by omega) (by omega) (by omega) (by have := (hA a ha).1; omega) hle
      rw [bind_of e]
      exact ⟨M', rfl, r, w⟩
    by_cases h4 : A a 0 = 4
    · rw [if_pos h4]
      have ht : ¬ txtP A a := fun z => by rcases z with z | z <;> (rw [z] at h4; exact absurd h4 (by decide))
      rw [cif_neg ht, cif_pos h4, jns_nil]
      exact ⟨M, rfl, hw, AgI.rf⟩
    · rw [if_neg h4]
      by_cases h1 : A a 0 = 1
      · rw [cif_pos (show txtP A a from Or.inl h1)] at hle ⊢
        rw [if_pos h1]
        exact txt (Or.inl h1) hle
      · rw [if_neg h1]
        by_cases h5 : A a 0 = 5
        · rw [cif_pos (show txtP A a from Or.inr h5)] at hle ⊢
          rw [if_pos h5]
          exact txt (Or.inr h5) hle
        · rw [if_neg h5]
          have ht : ¬ txtP A a := fun z => z.elim h1 h5
          rw [cif_neg ht, cif_neg h4] at hle ⊢
          have hfl : (K a).flatMap (trav K (ownW A W) (dsW A W)) = (K a).flatMap (fun k => cif (outP A k) [] (partW A K W k)) := flatMap_cong _ (fun k hk => trav_part hW (hW.2.2.1 a ha k hk).1)
          rw [hfl] at hle ⊢
          have hkl := kids_len hW ha
          unfold fX4_addContent_45
          obtain ⟨M', e, q1, q2⟩ := iter_inv (f := fun s : Int32 × Mm => fX4_addContent_45b (fX4_addContent n d Sh) n Sh t (nI a) o (nI k) s.2 s.1) (K a).length (fun j s => s.1 = nI j ∧ WR Sh s.2 o cap (jns l (((K a).take j).flatMap (fun k => cif (outP A k) [] (partW A K W k)))) ∧ AgI (fun a => a = o ∨ a = o + 1) M s.2) (fun M' => WR Sh M' o cap (jns l ((K a).flatMap (fun k => cif (outP A k) [] (partW A K W k)))) ∧ AgI (fun a => a = o ∨ a = o + 1) M M') (fun j s hj hI => by
            obtain ⟨v, M1⟩ := s
            obtain ⟨e1, hw1, hag⟩ := hI
            dsimp only at e1 hw1 hag
            subst e1
            have hc1 := h.out hag ho
            unfold fX4_addContent_45b fX4_addContent_83
            rw [bind_of (c_kidCount hc1 ha.1)]
            by_cases hjl : j < (K a).length
            · obtain ⟨hkv, hkp⟩ := hW.2.2.1 a ha (K a)[j] (List.getElem_mem hjl)
              have hdk := dp_kid hW ha (List.getElem_mem hjl)
              have htk : (K a).take (j + 1) = (K a).take j ++ [(K a)[j]] := by rw [List.take_add_one, List.getElem?_eq_getElem hjl]; rfl
              have hall : (K a).flatMap (fun k => cif (outP A k) [] (partW A K W k)) = ((K a).take j).flatMap (fun k => cif (outP A k) [] (partW A K W k)) ++ (cif (outP A (K a)[j]) [] (partW A K W (K a)[j]) ++ ((K a).drop (j + 1)).flatMap (fun k => cif (outP A k) [] (partW A K W k))) := flatMap_split _ _ j hjl
              rw [if_pos ((nI_ltI (by omega) (by omega)).mpr hjl), bind_of (c_kidAt hc1 ha.1 _), kAt_nI (by omega), List.getElem?_eq_getElem hjl, show oi (some (K a)[j]) = nI (K a)[j] from rfl, bind_of (c_isOut hc1 hkv.1)]
              by_cases hout : outP A (K a)[j]
              · rw [i0 hout]
                refine Or.inl ⟨hjl, _, rfl, nI_add1 j, ?_, hag⟩
                rw [htk, List.flatMap_append]
                simp only [List.flatMap_cons, List.flatMap_nil, List.append_nil, cif_pos hout]
                exact hw1
              · rw [i0n hout]
                rw [hall, jns_app, jns_app, cif_neg hout] at hle
                have b1 := jns_len (((K a).drop (j + 1)).flatMap (fun k => cif (outP A k) [] (partW A K W k))) (jns (jns l (((K a).take j).flatMap (fun k => cif (outP A k) [] (partW A K W k)))) (partW A K W (K a)[j]))
                obtain ⟨M2, e2, r2, w2⟩ := c_addPart hW hA hn hcap ho (rec := fX4_addContent n d Sh) (k := nI k + 1) (fun M' hc hw hb => by rw [nI_add1]; exact ih (K a)[j] (k + 1) _ M' hkv (by omega) (by omega) hc hw hb) hc1 hw1 hkv (by omega)
                rw [bind_of e2]
                refine Or.inl ⟨hjl, _, rfl, nI_add1 j, ?_, hag.tr w2⟩
                rw [htk, List.flatMap_append, jns_app]
                simp only [List.flatMap_cons, List.flatMap_nil, List.append_nil, cif_neg hout]
                exact r2
            · rw [if_neg (fun z => hjl ((nI_ltI (by omega) (by omega)).mp z))]
              refine Or.inr ⟨M1, rfl, ?_, hag⟩
              rw [List.take_of_length_le (by omega)] at hw1
              exact hw1) (show (K a).length < n by omega) (s := (0, M)) ⟨rfl, by rw [List.take_zero]; exact hw, AgI.rf⟩
          exact ⟨M', e, q1, q2⟩
theorem c_content (hW : WF A K) (hA : WA A W) (hn : 24 < n) (hcap : cap < 2 ^ 31) (ho : t + 109 ≤ o ∨ o + 2 ≤ t) {a : Nat} {l : List Int32} (h : CT Sh M t A K W) (hw : WR Sh M o cap l) (ha : live A a) (hle : (jns l (contW A K W a)).length ≤ cap) : ∃ M', fX4_addContent n 27 Sh M t (nI a) o 0 = some M' ∧ WR Sh M' o cap (jns l (contW A K W a)) ∧ AgI (fun a => a = o ∨ a = o + 1) M M' := c_addContent hW hA hn hcap ho 27 a 0 l M ha (by omega) (by have := dp_le hW ha; omega) h hw hle
theorem c_joinContent (hW : WF A K) (hA : WA A W) (hn : 24 < n) (hcap : cap < 2 ^ 31) (ho : t + 109 ≤ o ∨ o + 2 ≤ t) {a : Nat} {l : List Int32} (h : CT Sh M t A K W) (hw : WR Sh M o cap l) (ha : live A a) (hle : (jns l (contW A K W a)).length ≤ cap) : ∃ M', fX4_joinContent n Sh M t (nI a) o = some M' ∧ WR Sh M' o cap (jns l (contW A K W a)) ∧ AgI (fun a => a = o ∨ a = o + 1) M M' := by
  obtain ⟨M', e, r, w⟩ := c_content hW hA hn hcap ho h hw ha hle
  unfold fX4_joinContent
  rw [bind_of e]
  exact ⟨M', rfl, r, w⟩
theorem c_joinPart (hW : WF A K) (hA : WA A W) (hn : 24 < n) (hcap : cap < 2 ^ 31) (ho : t + 109 ≤ o ∨ o + 2 ≤ t) {a : Nat} {l : List Int32} (h : CT Sh M t A K W) (hw : WR Sh M o cap l) (ha : live A a) (hle : (jns l (partW A K W a)).length ≤ cap) : ∃ M', fX4_joinPart n Sh M t (nI a) o = some M' ∧ WR Sh M' o cap (jns l (partW A K W a)) ∧ AgI (fun a => a = o ∨ a = o + 1) M M' := by
  obtain ⟨M', e, r, w⟩ := c_addPart hW hA hn hcap ho (rec := fX4_addContent n 27 Sh) (k := 0) (fun M' hc hw hb => c_content hW hA hn hcap ho hc hw ha hb) h hw ha hle
  unfold fX4_joinPart
  rw [bind_of e]
  exact ⟨M', rfl, r, w⟩
theorem c_named (r : Int32) : fX4_isNamedByContent n Sh M r = some (bI (namedP r)) := by
  unfold fX4_isNamedByContent fX4_isNamedByContent_27 namedP
  by_cases h1 : r = 1
  · rw [if_pos h1, bI_pos (Or.inl h1)]
  rw [if_neg h1]
  by_cases h2 : r = 2
  · rw [if_pos h2, bI_pos (Or.inr (Or.inl h2))]
  rw [if_neg h2]
  by_cases h3 : r = 3
  · rw [if_pos h3, bI_pos (Or.inr (Or.inr (Or.inl h3)))]
  rw [if_neg h3]
  by_cases h9 : r = 9
  · rw [if_pos h9, bI_pos (Or.inr (Or.inr (Or.inr (Or.inl h9))))]
  rw [if_neg h9]
  by_cases h10 : r = 10
  · rw [if_pos h10, bI_pos (Or.inr (Or.inr (Or.inr (Or.inr h10))))]
  · rw [if_neg h10, bI_neg]
    rintro (z | z | z | z | z)
    · exact h1 z
    · exact h2 z
    · exact h3 z
    · exact h9 z
    · exact h10 z
theorem c_name (hW : WF A K) (hA : WA A W) (hn : 24 < n) (hcap : cap < 2 ^ 31) (ho : t + 109 ≤ o ∨ o + 2 ≤ t) {a : Nat} {l : List Int32} (h : CT Sh M t A K W) (hw : WR Sh M o cap l) (ha : live A a) (hle : (jns l (nameW A K W a)).length ≤ cap) : ∃ M', fX4_joinName n Sh M t (nI a) o = some M' ∧ WR Sh M' o cap (jns l (nameW A K W a)) ∧ AgI (fun a => a = o ∨ a = o + 1) M M' := by
  obtain ⟨-, h8, hlb, -⟩ := hA a ha
  have hw1 := c_labelW h ha.1
  have := ha.1
  unfold fX4_joinName
  rw [bind_of (c_labellerOf h _), bind_of (c_labellerOf h _), rd_nI ha.1, bind_of (c_labelOf h ha.1), bind_of (c_labelOf h ha.1), gI_of hw1.1, hw1.2.2.2.1, bind_of (c_roleOf h _), rd_nI ha.1, bind_of (c_named _)]
  simp only [nI_le0 (show (W a 1).length < 2 ^ 31 by omega), len0]
  unfold nameW at hle ⊢
  by_cases h2 : A a 2 = -1
  · rw [cif_neg (fun z => z h2)] at hle ⊢
    rw [if_pos h2]
    by_cases h1 : W a 1 = []
    · rw [cif_neg (fun z => z h1)] at hle ⊢
      rw [if_pos h1]
      by_cases hr : namedP (A a 0)
      · rw [cif_pos hr] at hle ⊢
        rw [i0 hr]
        obtain ⟨M', e, r, w⟩ := c_content hW hA hn hcap ho h hw ha hle
        rw [bind_of e]
        exact ⟨M', rfl, r, w⟩
      · rw [cif_neg hr, i0n hr]
        exact ⟨M, rfl, hw, AgI.rf⟩
    · rw [cif_pos h1] at hle ⊢
      rw [if_neg h1, chk_pos hw.1]
      obtain ⟨M', e, r, w⟩ := w_join (n := n) hw hw1 hcap (by decide) (by omega) (by omega) (by omega) (by omega) hle
      rw [bind_of e]
      exact ⟨M', rfl, r, w⟩
  · rw [cif_pos h2] at hle ⊢
    rw [if_neg h2]
    rcases hlb with e | ⟨b, hb, e⟩
    · exact absurd e h2
    · rw [e, nI_clamp hb.lt] at hle ⊢
      obtain ⟨M', e, r, w⟩ := c_content hW hA hn hcap ho h hw hb hle
      rw [bind_of e]
      exact ⟨M', rfl, r, w⟩
theorem c_roleWord (r : Int32) : ∃ i, fX4_roleWord n Sh M r = some i ∧ i < 9 ∧ bytS.getD i [] = roleWd r := by
  unfold fX4_roleWord roleWd
  by_cases h2 : r = 2
  · rw [if_pos h2, if_pos h2]; exact ⟨_, rfl, by decide, by decide +kernel⟩
  rw [if_neg h2, if_neg h2]
  by_cases h3 : r = 3
  · rw [if_pos h3, if_pos h3]; exact ⟨_, rfl, by decide, by decide +kernel⟩
  rw [if_neg h3, if_neg h3]
  by_cases h4 : r = 4
  · rw [if_pos h4, if_pos h4]; exact ⟨_, rfl, by decide, by decide +kernel⟩
  rw [if_neg h4, if_neg h4]
  by_cases h5 : r = 5
  · rw [if_pos h5, if_pos h5]; exact ⟨_, rfl, by decide, by decide +kernel⟩
  rw [if_neg h5, if_neg h5]
  by_cases h6 : r = 6
  · rw [if_pos h6, if_pos h6]; exact ⟨_, rfl, by decide, by decide +kernel⟩
  rw [if_neg h6, if_neg h6]
  by_cases h7 : r = 7
  · rw [if_pos h7, if_pos h7]; exact ⟨_, rfl, by decide, by decide +kernel⟩
  rw [if_neg h7, if_neg h7]
  by_cases h8 : r = 8
  · rw [if_pos h8, if_neg (by rw [h8]; decide)]; exact ⟨_, rfl, by decide, by decide +kernel⟩
  rw [if_neg h8]
  by_cases h9 : r = 9
  · rw [if_pos h9, if_neg (by rw [h9]; decide)]; exact ⟨_, rfl, by decide, by decide +kernel⟩
  rw [if_neg h9]
  by_cases h10 : r = 10
  · rw [if_pos h10, if_pos h10]; exact ⟨_, rfl, by decide, by decide +kernel⟩
  · rw [if_neg h10, if_neg h10]; exact ⟨_, rfl, by decide, by decide +kernel⟩
theorem c_phrase (hW : WF A K) (hA : WA A W) (hn : 24 < n) (hcap : cap < 2 ^ 31) (ho : t + 109 ≤ o ∨ o + 2 ≤ t) {a : Nat} {l : List Int32} (h : CT Sh M t A K W) (hw : WR Sh M o cap l) (ha : live A a) (hle : (jns l (phraseW A K W a)).length ≤ cap) : ∃ M', fX4_joinPhrase n Sh M t (nI a) o = some M' ∧ WR Sh M' o cap (jns l (phraseW A K W a)) ∧ AgI (fun a => a = o ∨ a = o + 1) M M' := by
  obtain ⟨h80, h8, hlb, -⟩ := hA a ha
  have ha24 := ha.1
  unfold phraseW at hle ⊢
  rw [jns_app, jns_app, jns_app, jns_one] at hle ⊢
  have b3 := jns_len (cif (A a 6 = 1) [disWd] []) (jns (jn (jns l (nameW A K W a)) (roleWd (A a 0))) (cif (A a 0 = 5) [W a 0] []))
  have b2 := jns_len (cif (A a 0 = 5) [W a 0] []) (jn (jns l (nameW A K W a)) (roleWd (A a 0)))
  have b1 := jn_len (jns l (nameW A K W a)) (roleWd (A a 0))
  unfold fX4_joinPhrase
  obtain ⟨M1, e1, r1, w1⟩ := c_name hW hA hn hcap ho h hw ha (by omega)
  have c1 := h.out w1 ho
  obtain ⟨i, ei, hi, bi⟩ := c_roleWord (Sh := Sh) (M := M1) (n := n) (A a 0)
  obtain ⟨M2, e2, r2, w2⟩ := w_joins (n := n) r1 hcap hi (by omega) (by rw [bi]; omega)
  rw [bi] at r2
  have c2 := c1.out w2 ho
  have w12 := w1.tr w2
  rw [bind_of e1, bind_of (c_roleOf c1 _), rd_nI ha.1, bind_of ei, chk_pos r1.1, bind_of e2, bind_of (c_roleOf c2 _), rd_nI ha.1]
  have last : ∀ (M3 : Mm) (l3 : List Int32), CT Sh M3 t A K W → WR Sh M3 o cap l3 → AgI (fun a => a = o ∨ a = o + 1) M M3 → (jns l3 (cif (A a 6 = 1) [disWd] [])).length ≤ cap → ∃ M', fX4_joinPhrase_36 n Sh t (nI a) o M3 = some M' ∧ WR Sh M' o cap (jns l3 (cif (A a 6 = 1) [disWd] [])) ∧ AgI (fun a => a = o ∨ a = o + 1) M M' := by
    intro M3 l3 c3 r3 w3 hb
    unfold fX4_joinPhrase_36
    rw [bind_of (c_set1 c3 _), rd_nI ha.1]
    by_cases h6 : A a 6 = 1
    · rw [cif_pos h6, jns_one] at hb ⊢
      have bd : bytS.getD 8 [] = disWd := by decide +kernel
      obtain ⟨M4, e4, r4, w4⟩ := w_joins (n := n) (i := 8) r3 hcap (by decide) (by omega) (by rw [bd]; exact hb)
      rw [if_pos h6, chk_pos r3.1, bind_of e4]
      rw [bd] at r4
      exact ⟨M4, rfl, r4, w3.tr w4⟩
    · rw [if_neg h6, cif_neg h6, jns_nil]
      exact ⟨M3, rfl, r3, w3⟩
  by_cases h5 : A a 0 = 5
  · rw [cif_pos h5, jns_one] at hle b2 b3 ⊢
    rw [if_pos h5]
    obtain ⟨M3, e3, r3, w3⟩ := w_join (n := n) r2 (c_textW c2 ha.1) hcap (by decide) (by omega) (by omega) (by omega) (by omega) (by omega)
    rw [bind_of (c_textOf c2 ha.1), chk_pos r2.1, bind_of e3]
    exact last M3 _ (c2.out w3 ho) r3 (w12.tr w3) hle
  · rw [cif_neg h5, jns_nil] at hle b2 b3 ⊢
    rw [if_neg h5]
    exact last M2 _ c2 r2 w12 hle
end CWORDS
