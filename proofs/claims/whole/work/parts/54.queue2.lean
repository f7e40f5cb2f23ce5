/-! ===== LEVEL 2: the class's queue: loops, append, speak ===== -/
def rk (Q : List QI) (i : Nat) : Int32 := match Q[i]? with
  | some x => x.1
  | none => 0
theorem rk_some {Q : List QI} {i : Nat} {x : QI} (h : Q[i]? = some x) : rk Q i = x.1 := by unfold rk; rw [h]
/-- the first one of the greatest, or of the least, rank -/
def exG (g : Bool) (Q : List QI) : Nat → Nat
  | 0 => 0
  | k + 1 => if (if g then rk Q (exG g Q k) < rk Q (k + 1) else rk Q (k + 1) < rk Q (exG g Q k)) then k + 1 else exG g Q k
def exF (g : Bool) (Q : List QI) : Nat := exG g Q (Q.length - 1)
theorem exG_le (g : Bool) (Q : List QI) : ∀ k, exG g Q k ≤ k := by
  intro k
  induction k with
  | zero => exact Nat.le_refl 0
  | succ k ih =>
    unfold exG
    split
    · split
      · exact Nat.le_refl _
      · omega
    · split
      · exact Nat.le_refl _
      · omega
theorem exF_lt (g : Bool) {Q : List QI} (h : 0 < Q.length) : exF g Q < Q.length := by
  have := exG_le g Q (Q.length - 1)
  unfold exF
  omega
def apQ (Q : List QI) (x : QI) : List QI := (if Q.length < 10 then Q else Q.eraseIdx (exF true Q)) ++ [x]
def qAt (Q : List QI) (v w : Int32) : Int32 := if v < 0 then -1 else match Q[v.toNatClampNeg]? with
  | some x => if w = 0 then x.1 else if w = 1 then x.2.1 else if w = 2 then x.2.2.1 else nI x.2.2.2.length
  | none => -1
def qSign (Q : List QI) (v i : Int32) : Int32 := if v < 0 then -1 else match Q[v.toNatClampNeg]? with
  | some x => lat x.2.2.2 i
  | none => -1
noncomputable def qFil (P : QI → Prop) (Q : List QI) : List QI := Q.filter (fun x => cB (¬ P x))
theorem qFil_len (P : QI → Prop) (Q : List QI) : (qFil P Q).length ≤ Q.length := List.length_filter_le _ _
section QUEUE2
variable {Sh : Sp} {M : Mm} {q n : Nat} {Q : List QI}
/-- a loop from the last to the first that drops what P says -/
theorem q_down {ρ : Type} {f : Int32 × Mm → Option ((Int32 × Mm) ⊕ ρ)} {g : Mm → Option ρ} {R : Mm → List QI → Prop} {Fr : Mm → Mm → Prop} (P : QI → Prop) (frf : ∀ M, Fr M M) (ftr : ∀ {M M1 M2}, Fr M M1 → Fr M1 M2 → Fr M M2) (hneg : ∀ M, f (-1, M) = (g M).map Sum.inr) (hstep : ∀ M Q k x, R M Q → Q.length ≤ 10 → Q[k]? = some x → (P x → ∃ M', f (nI k, M) = some (.inl (nI k + (-1), M')) ∧ R M' (Q.eraseIdx k) ∧ Fr M M') ∧ (¬ P x → f (nI k, M) = some (.inl (nI k + (-1), M)))) (hn : 24 < n) (h : R M Q) (hl : Q.length ≤ 10) : ∃ M', iter n f (nI Q.length - 1, M) = g M' ∧ R M' (qFil P Q) ∧ Fr M M' := by
  have key : ∀ (k m : Nat) (M : Mm) (Q : List QI), k ≤ Q.length → k < m → Q.length ≤ 10 → R M Q → ∃ M', iter m f (nI k + (-1), M) = g M' ∧ R M' (Q.take k |>.filter (fun x => cB (¬ P x)) |> (· ++ Q.drop k)) ∧ Fr M M' := by
    intro k
    induction k with
    | zero =>
      intro m M Q hk hm hl hR
      obtain ⟨m, rfl⟩ : ∃ j, m = j + 1 := ⟨m - 1, by omega⟩
      refine ⟨M, ?_, by simpa using hR, frf M⟩
      have e0 : f (nI 0 + (-1), M) = (g M).map Sum.inr := hneg M
      unfold iter
      rw [e0]
      cases hg : g M with
      | none => rfl
      | some r => rfl
    | succ k ih =>
      intro m M Q hk hm hl hR
      have hkl : k < Q.length := by omega
      have hx : Q[k]? = some Q[k] := List.getElem?_eq_getElem hkl
      obtain ⟨s1, s2⟩ := hstep M Q k Q[k] hR hl hx
      have e1 : nI (k + 1) + (-1) = nI k := by rw [nI_dec (by omega)]; rfl
      have htk : Q.take (k + 1) = Q.take k ++ [Q[k]] := by rw [List.take_add_one, hx]; rfl
      rw [e1]
      by_cases hP : P Q[k]
      · obtain ⟨M1, f1, r1, a1⟩ := s1 hP
        have hlen : (Q.eraseIdx k).length = Q.length - 1 := by rw [List.length_eraseIdx, if_pos hkl]
        obtain ⟨M2, f2, r2, a2⟩ := ih (m - 1) M1 (Q.eraseIdx k) (by omega) (by omega) (by omega) r1
        refine ⟨M2, (iter_go' (by omega) f1).trans f2, ?_, ftr a1 a2⟩
        have e2 : (Q.eraseIdx k).take k = Q.take k := by
          rw [List.eraseIdx_eq_take_drop_succ, List.take_append_of_le_length (by rw [List.length_take]; omega), List.take_take, Nat.min_self]
        have e3 : (Q.eraseIdx k).drop k = Q.drop (k + 1) := by
          rw [List.eraseIdx_eq_take_drop_succ]
          have hlt : (Q.take k).length = k := by rw [List.length_take]; omega
          have := List.drop_left (l₁ := Q.take k) (l₂ := Q.drop (k + 1))
          rw [hlt] at this
          exact this
        rw [e2, e3] at r2
        rw [htk, List.filter_append, List.filter_cons, if_neg (show ¬ cB (¬ P Q[k]) = true from fun z => cB_iff.mp z hP)]
        simpa using r2
      · obtain ⟨M2, f2, r2, a2⟩ := ih (m - 1) M Q (by omega) (by omega) hl hR
        refine ⟨M2, (iter_go' (by omega) (s2 hP)).trans f2, ?_, a2⟩
        rw [htk, List.filter_append, List.filter_cons, if_pos (cB_iff.mpr hP)]
        rw [List.drop_eq_getElem_cons hkl] at r2
        simpa using r2
  obtain ⟨M', e, r, a⟩ := key Q.length n M Q (Nat.le_refl _) (by omega) hl h
  rw [Int32.sub_eq_add_neg]
  refine ⟨M', e, ?_, a⟩
  simpa [qFil] using r
def QF (q : Nat) (M M' : Mm) : Prop := Ag (fun a => q ≤ a ∧ a < q + 5) M M'
theorem q_dropFocus (h : QR Sh M q Q) (hn : 24 < n) : ∃ M', fX1_dropFocus n Sh M q = some M' ∧ QR Sh M' q (qFil (fun x => x.1 = 0) Q) ∧ QF q M M' := by
  unfold fX1_dropFocus fX1_dropFocus_7
  simp only [tI_of, h.2.1]
  refine q_down (R := fun M Q => QR Sh M q Q) (Fr := QF q) (g := some) (fun x => x.1 = 0) (fun M => Ag.rf) (fun a b => Ag.tr a b) (fun M => rfl) (fun M Q k x hR hl hx => ?_) hn h h.2.2.1
  have hk := (List.getElem?_eq_some_iff.mp hx).1
  unfold fX1_dropFocus_7b fX1_dropFocus_24
  dsimp only
  rw [if_neg (nI_pos (by omega)), bind_of (q_rankOf hR hx)]
  constructor
  · intro hP
    obtain ⟨M', e, r, a⟩ := q_drop hR hn hk
    rw [if_pos hP, bind_of e]
    exact ⟨M', rfl, r, a⟩
  · intro hP
    rw [if_neg hP]
theorem q_dropChangeOf (h : QR Sh M q Q) (hn : 24 < n) (tg : Int32) : ∃ M', fX1_dropChangeOf n Sh M q tg = some M' ∧ QR Sh M' q (qFil (fun x => x.1 ≠ 0 ∧ x.2.1 = tg) Q) ∧ QF q M M' := by
  unfold fX1_dropChangeOf fX1_dropChangeOf_7
  simp only [tI_of, h.2.1]
  refine q_down (R := fun M Q => QR Sh M q Q) (Fr := QF q) (g := some) (fun x => x.1 ≠ 0 ∧ x.2.1 = tg) (fun M => Ag.rf) (fun a b => Ag.tr a b) (fun M => rfl) (fun M Q k x hR hl hx => ?_) hn h h.2.2.1
  have hk := (List.getElem?_eq_some_iff.mp hx).1
  unfold fX1_dropChangeOf_7b fX1_dropChangeOf_33
  dsimp only
  rw [if_neg (nI_pos (by omega)), bind_of (q_rankOf hR hx), bind_of (q_targetOf hR hx)]
  constructor
  · intro hP
    obtain ⟨M', e, r, a⟩ := q_drop hR hn hk
    rw [if_neg hP.1, if_pos hP.2, bind_of e]
    exact ⟨M', rfl, r, a⟩
  · intro hP
    by_cases h0 : x.1 = 0
    · rw [if_pos h0]
    · rw [if_neg h0, if_neg (fun z => hP ⟨h0, z⟩)]
theorem q_dropPolite (h : QR Sh M q Q) (hn : 24 < n) (rg : Int32) : ∃ M', fX1_dropPolite n Sh M q rg = some M' ∧ QR Sh M' q (qFil (fun x => x.1 = 2 ∧ x.2.2.1 = rg) Q) ∧ QF q M M' := by
  unfold fX1_dropPolite fX1_dropPolite_7
  simp only [tI_of, h.2.1]
  refine q_down (R := fun M Q => QR Sh M q Q) (Fr := QF q) (g := some) (fun x => x.1 = 2 ∧ x.2.2.1 = rg) (fun M => Ag.rf) (fun a b => Ag.tr a b) (fun M => rfl) (fun M Q k x hR hl hx => ?_) hn h h.2.2.1
  have hk := (List.getElem?_eq_some_iff.mp hx).1
  unfold fX1_dropPolite_7b fX1_dropPolite_34
  dsimp only
  rw [if_neg (nI_pos (by omega)), bind_of (q_rankOf hR hx), bind_of (q_regionOf hR hx)]
  constructor
  · intro hP
    obtain ⟨M', e, r, a⟩ := q_drop hR hn hk
    rw [if_pos hP.1, if_pos hP.2, bind_of e]
    exact ⟨M', rfl, r, a⟩
  · intro hP
    by_cases h0 : x.1 = 2
    · rw [if_pos h0, if_neg (fun z => hP ⟨h0, z⟩)]
    · rw [if_neg h0]
theorem q_dropNodes (h : QR Sh M q Q) (hn : 24 < n) (mask : Int32) (G : Int32 → Prop) (hG : ∀ M v, fX6_isIn n Sh M mask v = some (bI (G v))) : ∃ M', fX1_dropNodes n Sh M q mask = some M' ∧ QR Sh M' q (qFil (fun x => G x.2.1 ∨ G x.2.2.1) Q) ∧ QF q M M' := by
  unfold fX1_dropNodes fX1_dropNodes_7
  simp only [tI_of, h.2.1]
  refine q_down (R := fun M Q => QR Sh M q Q) (Fr := QF q) (g := some) (fun x => G x.2.1 ∨ G x.2.2.1) (fun M => Ag.rf) (fun a b => Ag.tr a b) (fun M => rfl) (fun M Q k x hR hl hx => ?_) hn h h.2.2.1
  have hk := (List.getElem?_eq_some_iff.mp hx).1
  unfold fX1_dropNodes_7b fX1_dropNodes_35 fX1_dropNodes_40
  dsimp only
  rw [if_neg (nI_pos (by omega)), bind_of (q_targetOf hR hx), bind_of (q_regionOf hR hx), bind_of (hG _ _), bind_of (hG _ _)]
  constructor
  · intro hP
    obtain ⟨M', e, r, a⟩ := q_drop hR hn hk
    by_cases h1 : G x.2.1
    · rw [i0 h1, bind_of e]
      exact ⟨M', rfl, r, a⟩
    · rw [i0n h1, i0 (hP.resolve_left h1), bind_of e]
      exact ⟨M', rfl, r, a⟩
  · intro hP
    rw [i0n (fun z => hP (Or.inl z)), i0n (fun z => hP (Or.inr z))]
theorem q_high (h : QR Sh M q Q) (hn : 24 < n) (hl : 0 < Q.length) : fX1_firstOfHighestRank n Sh M q = some (nI (exF true Q)) := by
  have h3 := h.2.2.1
  unfold fX1_firstOfHighestRank fX1_firstOfHighestRank_4
  refine iter_seq (N := Q.length - 1) (fun j => (nI (exG true Q j), nI (j + 1))) (fun j hj => ?_) ?_ (by omega) rfl
  · have hb := exG_le true Q j
    have g1 : Q[j + 1]? = some Q[j + 1] := List.getElem?_eq_getElem (by omega)
    have g2 : Q[exG true Q j]? = some Q[exG true Q j] := List.getElem?_eq_getElem (by omega)
    unfold fX1_firstOfHighestRank_4b fX1_firstOfHighestRank_27
    dsimp only
    simp only [tI_of, h.2.1]
    rw [if_pos ((nI_ltI (by omega) (by omega)).mpr (show j + 1 < Q.length by omega)), bind_of (q_rankOf h g1), bind_of (q_rankOf h g2)]
    have e : exG true Q (j + 1) = if rk Q (exG true Q j) < rk Q (j + 1) then j + 1 else exG true Q j := rfl
    rw [e, rk_some g1, rk_some g2, nI_add1]
    by_cases hlt : Q[exG true Q j].1 < Q[j + 1].1
    · rw [if_pos hlt, if_neg (Int32.not_le.mpr hlt)]
    · rw [if_neg hlt, if_pos (Int32.not_lt.mp hlt)]
  · unfold fX1_firstOfHighestRank_4b
    dsimp only
    simp only [tI_of, h.2.1]
    rw [if_neg (fun z => by have := (nI_ltI (by omega) (by omega)).mp z; omega)]
    rfl
theorem q_low (h : QR Sh M q Q) (hn : 24 < n) : fX1_firstOfLowestRank n Sh M q = some (nI (exF false Q)) := by
  have h3 := h.2.2.1
  unfold fX1_firstOfLowestRank fX1_firstOfLowestRank_4
  refine iter_seq (N := Q.length - 1) (fun j => (nI (exG false Q j), nI (j + 1))) (fun j hj => ?_) ?_ (by omega) rfl
  · have hb := exG_le false Q j
    have g1 : Q[j + 1]? = some Q[j + 1] := List.getElem?_eq_getElem (by omega)
    have g2 : Q[exG false Q j]? = some Q[exG false Q j] := List.getElem?_eq_getElem (by omega)
    unfold fX1_firstOfLowestRank_4b fX1_firstOfLowestRank_27
    dsimp only
    simp only [tI_of, h.2.1]
    rw [if_pos ((nI_ltI (by omega) (by omega)).mpr (show j + 1 < Q.length by omega)), bind_of (q_rankOf h g1), bind_of (q_rankOf h g2)]
    have e : exG false Q (j + 1) = if rk Q (j + 1) < rk Q (exG false Q j) then j + 1 else exG false Q j := rfl
    rw [e, rk_some g1, rk_some g2, nI_add1]
    by_cases hlt : Q[j + 1].1 < Q[exG false Q j].1
    · rw [if_pos hlt, if_pos hlt]
    · rw [if_neg hlt, if_neg hlt]
  · unfold fX1_firstOfLowestRank_4b
    dsimp only
    simp only [tI_of, h.2.1]
    rw [if_neg (fun z => by have := (nI_ltI (by omega) (by omega)).mp z; omega)]
    rfl
/-- a queue with room takes an announcement -/
theorem q_app17 (h : QR Sh M q Q) (hl : Q.length < 10) {w : Nat} {l : List Int32} (hw : WR Sh M w 256 l) (hwo : w + 2 ≤ q ∨ q + 25 ≤ w) (r tg rg : Int32) : ∃ M', fX1_append_17 n Sh q r tg rg w M = some M' ∧ QR Sh M' q (Q ++ [(r, tg, rg, l)]) ∧ Ag (QS q) M M' := by
  have hQ := h
  obtain ⟨hL, h2, h3, h4, p, h5, h6, h7, h8⟩ := h
  have hpc := h5 Q.length hl
  obtain ⟨l0, hl0⟩ := h4 (p Q.length) hpc
  unfold fX1_append_17
  simp only [tI_of, qI_of]
  rw [if_neg (show ¬ M.1 q 0 < 0 by rw [h2]; exact nI_pos (by omega)), if_pos (show M.1 q 0 < 10 by rw [h2]; exact (nI_ltI (b := 10) (by omega) (by decide)).mpr hl), tF_of hL.2.1.1, h2, sI_nI hL.2.2.1 hl (by decide), tF_uI, tF_of hL.2.1.2.1, uI_off (by omega), h2, sI_nI hL.2.2.2.1 hl (by decide), tF_uI, tF_uI, tF_of hL.2.1.2.2.1, uI_off (by omega), uI_off (by omega), h2, sI_nI hL.2.2.2.2.1 hl (by decide), tF_uI, tF_uI, tF_uI, tF_of hL.2.1.2.2.2, uI_off (by omega), uI_off (by omega), uI_off (by omega), h2, aR_nI (M := uI (uI (uI M _ _ _) _ _ _) _ _ _) hL.2.2.2.2.2 hl (by decide) (h7 _ hl), chk_pos hl0.1]
  have a1 : AgI (fun a => a = q + 1 ∨ a = q + 2 ∨ a = q + 3) M (uI (uI (uI M (q + 1) Q.length r) (q + 2) Q.length tg) (q + 3) Q.length rg) := (AgI.uI (Or.inl rfl)).tr ((AgI.uI (Or.inr (Or.inl rfl))).tr (AgI.uI (Or.inr (Or.inr rfl))))
  obtain ⟨M1, e1, r1, w1⟩ := w_become (n := n) (hl0.ag a1 (by omega) (by omega)) (hw.ag a1 (by omega) (by omega)) (by omega) (by omega) (by omega) hw.2.2.2.2.1 (by decide)
  rw [bind_of e1]
  have e0 : M1.1 q 0 = nI Q.length := by rw [w1.2 q (by omega), uI_off (by omega), uI_off (by omega), uI_off (by omega)]; exact h2
  rw [e0, nI_add1]
  have a2 : Ag (QS q) M (uI M1 q 0 (nI (Q.length + 1))) := ((a1.toAg).mono (fun a z => by unfold QS; omega)).tr (((w1.toAg).mono (fun a z => by unfold QS; omega)).tr (Ag.uI (by unfold QS; omega)))
  have r0 : ∀ j, M1.1 (q + 1) j = upd (M.1 (q + 1)) Q.length r j ∧ M1.1 (q + 2) j = upd (M.1 (q + 2)) Q.length tg j ∧ M1.1 (q + 3) j = upd (M.1 (q + 3)) Q.length rg j := fun j => by
    rw [w1.2 (q + 1) (by omega), w1.2 (q + 2) (by omega), w1.2 (q + 3) (by omega)]
    refine ⟨?_, ?_, ?_⟩
    · rw [uI_off (by omega), uI_off (by omega), uI_upd]
    · rw [uI_off (by omega), uI_upd, uI_off (by omega)]
    · rw [uI_upd, uI_off (by omega), uI_off (by omega)]
  have hR : (uI M1 q 0 (nI (Q.length + 1))).2.1 = M.2.1 := by
    show M1.2.1 = M.2.1
    rw [w1.1]
    rfl
  refine ⟨_, rfl, ⟨by rw [hR]; exact hL, by rw [uI_same, List.length_append]; rfl, by rw [List.length_append]; exact hl, fun k hk => ?_, p, h5, h6, fun i hi => by rw [hR]; exact h7 i hi, fun i x hx => ?_⟩, a2⟩
  · by_cases hkp : k = p Q.length
    · subst hkp
      exact ⟨l, r1.ag (AgI.uI (S := fun a => a = q) rfl) (by omega) (by omega)⟩
    · obtain ⟨l', hl'⟩ := h4 k hk
      exact ⟨l', ((hl'.ag a1 (by omega) (by omega)).ag w1 (by omega) (by omega)).ag (AgI.uI (S := fun a => a = q) rfl) (by omega) (by omega)⟩
  · obtain ⟨z1, z2, z3⟩ := r0 i
    rw [uI_off (by omega), uI_off (by omega), uI_off (by omega), z1, z2, z3]
    unfold upd
    by_cases hi : i < Q.length
    · rw [List.getElem?_append_left hi] at hx
      obtain ⟨g1, g2, g3, g4⟩ := h8 i x hx
      have hpi := h5 i (by omega)
      have hne : p i ≠ p Q.length := fun z => by have := h6 i Q.length (by omega) hl z; omega
      rw [if_neg (by omega), if_neg (by omega), if_neg (by omega)]
      exact ⟨g1, g2, g3, ((g4.ag a1 (by omega) (by omega)).ag w1 (by omega) (by omega)).ag (AgI.uI (S := fun a => a = q) rfl) (by omega) (by omega)⟩
    · have hil := (List.getElem?_eq_some_iff.mp hx).1
      rw [List.length_append, List.length_singleton] at hil
      have hi2 : i = Q.length := by omega
      subst hi2
      rw [List.getElem?_append_right (Nat.le_refl _), Nat.sub_self] at hx
      have hx2 : (r, tg, rg, l) = x := Option.some.inj hx
      subst hx2
      rw [if_pos rfl, if_pos rfl, if_pos rfl]
      exact ⟨rfl, rfl, rfl, r1.ag (AgI.uI (S := fun a => a = q) rfl) (by omega) (by omega)⟩
theorem q_append (h : QR Sh M q Q) (hn : 24 < n) {w : Nat} {l : List Int32} (hw : WR Sh M w 256 l) (hwo : w + 2 ≤ q ∨ q + 25 ≤ w) (r tg rg : Int32) : ∃ M', fX1_append n Sh M q r tg rg w = some M' ∧ QR Sh M' q (apQ Q (r, tg, rg, l)) ∧ Ag (QS q) M M' := by
  have h3 := h.2.2.1
  unfold fX1_append apQ
  simp only [tI_of, h.2.1]
  by_cases hl : Q.length < 10
  · rw [if_pos (show nI Q.length < 10 from (nI_ltI (b := 10) (by omega) (by decide)).mpr hl), if_pos hl]
    exact q_app17 h hl hw hwo r tg rg
  · rw [if_neg (show ¬ nI Q.length < 10 from fun z => hl ((nI_ltI (b := 10) (by omega) (by decide)).mp z)), if_neg hl, bind_of (q_high h hn (by omega))]
    have hx := exF_lt true (Q := Q) (by omega)
    obtain ⟨M1, e1, r1, a1⟩ := q_drop h hn hx
    rw [bind_of e1]
    obtain ⟨M2, e2, r2, a2⟩ := q_app17 (n := n) r1 (by rw [List.length_eraseIdx, if_pos hx]; omega) (hw.Ag a1 (by omega) (by omega)) hwo r tg rg
    exact ⟨M2, e2, r2, (a1.mono (fun a z => by unfold QS; omega)).tr a2⟩
theorem q_moveFirst (h : QR Sh M q Q) (hn : 24 < n) {w : Nat} {l : List Int32} (hw : WR Sh M w 256 l) (hwo : w + 2 ≤ q ∨ q + 25 ≤ w) : (Q = [] ∧ fX1_moveFirst n Sh M q w = some (0, M)) ∨ ∃ x M', Q[exF false Q]? = some x ∧ fX1_moveFirst n Sh M q w = some (1, M') ∧ QR Sh M' q (Q.eraseIdx (exF false Q)) ∧ WR Sh M' w 256 x.2.2.2 ∧ Ag (fun a => (q ≤ a ∧ a < q + 5) ∨ a = w ∨ a = w + 1) M M' := by
  have hQ := h
  obtain ⟨hL, h2, h3, h4, p, h5, h6, h7, h8⟩ := h
  unfold fX1_moveFirst
  rw [bind_of (q_low hQ hn)]
  have hle := exG_le false Q (Q.length - 1)
  by_cases h0 : Q.length = 0
  · left
    refine ⟨List.length_eq_zero_iff.mp h0, ?_⟩
    have hx : exF false Q < 2 ^ 31 := by unfold exF; omega
    rw [bind_of (q_has hQ hx), i0n (by omega)]
  · right
    have hx := exF_lt false (Q := Q) (by omega)
    have hg : Q[exF false Q]? = some Q[exF false Q] := List.getElem?_eq_getElem hx
    obtain ⟨g1, g2, g3, g4⟩ := h8 _ _ hg
    have hpi := h5 (exF false Q) (by omega)
    rw [bind_of (q_has hQ (show exF false Q < 2 ^ 31 by omega)), i0 hx, tF_of hL.2.1.2.2.2, aR_nI hL.2.2.2.2.2 (by omega) (by decide) (h7 _ (by omega)), chk_pos hw.1]
    obtain ⟨M1, e1, r1, w1⟩ := w_become (n := n) hw g4 (by omega) (by omega) (by omega) g4.2.2.2.2.1 (by decide)
    have hQ1 : QR Sh M1 q Q := hQ.Ag w1.toAg (fun a x y z => by omega)
    obtain ⟨M2, e2, r2, a2⟩ := q_drop hQ1 hn hx
    rw [bind_of e1, bind_of e2]
    exact ⟨Q[exF false Q], M2, hg, rfl, r2, r1.Ag a2 (by omega) (by omega), (w1.toAg.mono (fun a z => Or.inr z)).tr (a2.mono (fun a z => Or.inl z))⟩
theorem q_hasI (h : QR Sh M q Q) (v : Int32) : fX1_has n Sh M q v = some (bI (¬ v < 0 ∧ v.toNatClampNeg < Q.length)) := by
  by_cases hv : v < 0
  · rw [q_has_neg hv, bI_neg (fun z => z.1 hv)]
  · obtain ⟨j, hj, rfl⟩ := nI_of hv
    rw [q_has h hj, nI_clamp hj]
    exact congrArg some (bI_congr ⟨fun z => ⟨hv, z⟩, fun z => z.2⟩)
theorem q_about (h : QR Sh M q Q) (v w : Int32) : fX1_about n Sh M q v w = some (qAt Q v w) := by
  unfold fX1_about qAt
  rw [bind_of (q_hasI h v)]
  by_cases hv : v < 0
  · rw [i0n (fun z => z.1 hv), if_pos hv]
  · rw [if_neg hv]
    obtain ⟨j, hj, rfl⟩ := nI_of hv
    rw [nI_clamp hj]
    by_cases hjl : j < Q.length
    · have hx : Q[j]? = some Q[j] := List.getElem?_eq_getElem hjl
      rw [i0 ⟨hv, hjl⟩, bind_of (q_rankOf h hx), bind_of (q_targetOf h hx), bind_of (q_regionOf h hx), hx]
      obtain ⟨hL, h2, h3, h4, p, h5, h6, h7, h8⟩ := h
      obtain ⟨g1, g2, g3, g4⟩ := h8 _ _ hx
      rw [tF_of hL.2.1.2.2.2, aR_nI hL.2.2.2.2.2 (by omega) (by decide) (h7 _ (by omega)), gI_of g4.1, g4.2.2.2.1]
      dsimp only
      by_cases w0 : w = 0
      · rw [if_pos w0, if_pos w0]
      rw [if_neg w0, if_neg w0]
      by_cases w1 : w = 1
      · rw [if_pos w1, if_pos w1]
      rw [if_neg w1, if_neg w1]
      by_cases w2 : w = 2
      · rw [if_pos w2, if_pos w2]
      rw [if_neg w2, if_neg w2]
    · rw [i0n (fun z => hjl z.2), List.getElem?_eq_none_iff.mpr (by omega)]
theorem q_signAt (h : QR Sh M q Q) (v i : Int32) : fX1_signAt n Sh M q v i = some (qSign Q v i) := by
  unfold fX1_signAt qSign
  rw [bind_of (q_hasI h v)]
  by_cases hv : v < 0
  · rw [i0n (fun z => z.1 hv), if_pos hv]
  · rw [if_neg hv]
    obtain ⟨j, hj, rfl⟩ := nI_of hv
    rw [nI_clamp hj]
    by_cases hjl : j < Q.length
    · have hx : Q[j]? = some Q[j] := List.getElem?_eq_getElem hjl
      rw [i0 ⟨hv, hjl⟩, hx]
      obtain ⟨hL, h2, h3, h4, p, h5, h6, h7, h8⟩ := h
      obtain ⟨g1, g2, g3, g4⟩ := h8 _ _ hx
      rw [tF_of hL.2.1.2.2.2, aR_nI hL.2.2.2.2.2 (by omega) (by decide) (h7 _ (by omega)), chk_pos g4.1, bind_of (w_atI g4 (by decide) i)]
    · rw [i0n (fun z => hjl z.2), List.getElem?_eq_none_iff.mpr (by omega)]
end QUEUE2
