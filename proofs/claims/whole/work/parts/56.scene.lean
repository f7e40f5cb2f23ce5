/-! ===== LEVEL 2: how long words grow; a scene of the class ===== -/
theorem jn_le (l p : List Int32) : (jn l p).length ≤ l.length + p.length + 1 := by
  unfold jn
  by_cases h : l = []
  · rw [if_pos h]; omega
  · rw [if_neg h]
    by_cases h1 : p = []
    · rw [if_pos h1]; omega
    · rw [if_neg h1, List.length_append, List.length_cons]; omega
theorem jns_le : ∀ (ps : List (List Int32)), (∀ p ∈ ps, p.length ≤ 8) → ∀ l, (jns l ps).length ≤ l.length + 9 * ps.length := by
  intro ps
  induction ps with
  | nil => intro _ l; exact Nat.le_refl _
  | cons p ps ih =>
    intro h l
    have h1 := ih (fun x hx => h x (List.mem_cons_of_mem _ hx)) (jn l p)
    have h2 := jn_le l p
    have h3 := h p List.mem_cons_self
    show (jns (jn l p) ps).length ≤ _
    rw [List.length_cons]
    omega
section BOUND
variable {A : At} {K : Kt} {W : Wt}
theorem ownW_ok (hA : WA A W) {k : Nat} (hk : live A k) : (ownW A W k).length ≤ 1 ∧ ∀ p ∈ ownW A W k, p.length ≤ 8 := by
  obtain ⟨h0, h1, -, -⟩ := hA k hk
  unfold ownW
  by_cases ho : outP A k
  · rw [cif_pos ho]; exact ⟨Nat.zero_le _, fun p hp => absurd hp List.not_mem_nil⟩
  · rw [cif_neg ho]
    by_cases hl : W k 1 ≠ []
    · rw [cif_pos hl]; exact ⟨Nat.le_refl _, fun p hp => by rw [List.mem_singleton.mp hp]; exact h1⟩
    · rw [cif_neg hl]
      by_cases ht : txtP A k
      · rw [cif_pos ht]; exact ⟨Nat.le_refl _, fun p hp => by rw [List.mem_singleton.mp hp]; exact h0⟩
      · rw [cif_neg ht]; exact ⟨Nat.zero_le _, fun p hp => absurd hp List.not_mem_nil⟩
theorem ownW_1 (k : Nat) : (ownW A W k).length ≤ 1 := by
  unfold ownW
  by_cases ho : outP A k
  · rw [cif_pos ho]; exact Nat.zero_le _
  · rw [cif_neg ho]
    by_cases hl : W k 1 ≠ []
    · rw [cif_pos hl]; exact Nat.le_refl _
    · rw [cif_neg hl]
      by_cases ht : txtP A k
      · rw [cif_pos ht]; exact Nat.le_refl _
      · rw [cif_neg ht]; exact Nat.zero_le _
theorem trav_8 (hW : WF A K) (hA : WA A W) : ∀ k, live A k → ∀ p ∈ trav K (ownW A W) (dsW A W) k, p.length ≤ 8 := by
  refine down_ind hW _ (fun k hk ih p hp => ?_)
  rw [trav_eq hW hk] at hp
  rcases List.mem_append.mp hp with hp | hp
  · exact (ownW_ok hA hk).2 p hp
  · by_cases hd : dsW A W k = true
    · rw [if_pos hd] at hp
      obtain ⟨j, hj, hp⟩ := List.mem_flatMap.mp hp
      exact ih j hj (hW.2.2.1 k hk j hj).1 p hp
    · rw [if_neg hd] at hp
      exact absurd hp List.not_mem_nil
theorem contW_ok (hW : WF A K) (hA : WA A W) {k : Nat} (hk : live A k) : (contW A K W k).length ≤ (pre K k).length ∧ ∀ p ∈ contW A K W k, p.length ≤ 8 := by
  obtain ⟨h0, h1, -, -⟩ := hA k hk
  have hp := pre_eq hW hk
  unfold contW
  by_cases ht : txtP A k
  · rw [cif_pos ht]; exact ⟨by rw [hp]; simp, fun p hp => by rw [List.mem_singleton.mp hp]; exact h0⟩
  · rw [cif_neg ht]
    by_cases h4 : A k 0 = 4
    · rw [cif_pos h4]; exact ⟨Nat.zero_le _, fun p hp => absurd hp List.not_mem_nil⟩
    · rw [cif_neg h4]
      refine ⟨?_, fun p hp => ?_⟩
      · rw [hp, List.length_cons]
        exact Nat.le_succ_of_le (flat_mono _ (fun j hj => trav_len hW ownW_1 j (hW.2.2.1 k hk j hj).1))
      · obtain ⟨j, hj, hp⟩ := List.mem_flatMap.mp hp
        exact trav_8 hW hA j (hW.2.2.1 k hk j hj).1 p hp
theorem partW_ok (hW : WF A K) (hA : WA A W) {k : Nat} (hk : live A k) : (partW A K W k).length ≤ (pre K k).length ∧ ∀ p ∈ partW A K W k, p.length ≤ 8 := by
  obtain ⟨h0, h1, -, -⟩ := hA k hk
  have hp := pre_eq hW hk
  unfold partW
  by_cases hl : W k 1 ≠ []
  · rw [cif_pos hl]; exact ⟨by rw [hp]; simp, fun p hp => by rw [List.mem_singleton.mp hp]; exact h1⟩
  · rw [cif_neg hl]; exact contW_ok hW hA hk
theorem nameW_ok (hW : WF A K) (hA : WA A W) {k : Nat} (hk : live A k) : (nameW A K W k).length ≤ 24 ∧ ∀ p ∈ nameW A K W k, p.length ≤ 8 := by
  obtain ⟨h0, h1, hb, -⟩ := hA k hk
  unfold nameW
  by_cases h2 : A k 2 ≠ -1
  · rw [cif_pos h2]
    obtain ⟨b, hb, e⟩ := hb.resolve_left h2
    rw [e, nI_clamp hb.lt]
    have := contW_ok hW hA hb
    exact ⟨Nat.le_trans this.1 (pre_len hW hb), this.2⟩
  · rw [cif_neg h2]
    by_cases hl : W k 1 ≠ []
    · rw [cif_pos hl]; exact ⟨by simp, fun p hp => by rw [List.mem_singleton.mp hp]; exact h1⟩
    · rw [cif_neg hl]
      by_cases hr : namedP (A k 0)
      · rw [cif_pos hr]
        have := contW_ok hW hA hk
        exact ⟨Nat.le_trans this.1 (pre_len hW hk), this.2⟩
      · rw [cif_neg hr]; exact ⟨by simp, fun p hp => absurd hp List.not_mem_nil⟩
theorem roleWd_6 (r : Int32) : (roleWd r).length ≤ 6 := by
  unfold roleWd
  repeat' split
  all_goals decide
theorem part_le (hW : WF A K) (hA : WA A W) {k : Nat} (hk : live A k) : (jns [] (partW A K W k)).length ≤ 216 := by
  have h := partW_ok hW hA hk
  have h1 := jns_le _ h.2 []
  have h2 := pre_len hW hk
  have h3 := h.1
  rw [List.length_nil] at h1
  omega
theorem cont_le (hW : WF A K) (hA : WA A W) {k : Nat} (hk : live A k) : (jns [] (contW A K W k)).length ≤ 216 := by
  have h := contW_ok hW hA hk
  have h1 := jns_le _ h.2 []
  have h2 := pre_len hW hk
  have h3 := h.1
  rw [List.length_nil] at h1
  omega
theorem name_le (hW : WF A K) (hA : WA A W) {k : Nat} (hk : live A k) : (jns [] (nameW A K W k)).length ≤ 216 := by
  have h := nameW_ok hW hA hk
  have h1 := jns_le _ h.2 []
  have h3 := h.1
  rw [List.length_nil] at h1
  omega
theorem phrase_le (hW : WF A K) (hA : WA A W) {k : Nat} (hk : live A k) : (jns [] (phraseW A K W k)).length ≤ 240 := by
  have h := name_le hW hA hk
  have h80 := (hA k hk).1
  have h6 := roleWd_6 (A k 0)
  have hd : disWd.length = 8 := by decide
  unfold phraseW
  rw [jns_app, jns_app, jns_app, jns_one]
  have b1 := jn_le (jns [] (nameW A K W k)) (roleWd (A k 0))
  by_cases h5 : A k 0 = 5
  · have h4 : (roleWd (A k 0)).length = 4 := by rw [h5]; decide
    rw [cif_pos h5, jns_one]
    have b2 := jn_le (jn (jns [] (nameW A K W k)) (roleWd (A k 0))) (W k 0)
    by_cases hdis : A k 6 = 1
    · rw [cif_pos hdis, jns_one]
      have b3 := jn_le (jn (jn (jns [] (nameW A K W k)) (roleWd (A k 0))) (W k 0)) disWd
      omega
    · rw [cif_neg hdis, jns_nil]
      omega
  · rw [cif_neg h5, jns_nil]
    by_cases hdis : A k 6 = 1
    · rw [cif_pos hdis, jns_one]
      have b3 := jn_le (jn (jns [] (nameW A K W k)) (roleWd (A k 0))) disWd
      omega
    · rw [cif_neg hdis, jns_nil]
      omega
theorem kind_le (hW : WF A K) (hA : WA A W) {k : Nat} (hk : live A k) (w : Int32) : (jns [] (kindW A K W k w)).length ≤ 240 := by
  obtain ⟨h0, h1, -, -⟩ := hA k hk
  have e : ∀ p : List Int32, (jns [] [p]).length = p.length := fun p => by rw [jns_one]; unfold jn; rw [if_pos rfl]
  unfold kindW
  by_cases w0 : w = 0
  · rw [if_pos w0, e]; omega
  rw [if_neg w0]
  by_cases w1 : w = 1
  · rw [if_pos w1, e]; omega
  rw [if_neg w1]
  by_cases w2 : w = 2
  · rw [if_pos w2]; have := name_le hW hA hk; omega
  rw [if_neg w2]
  by_cases w3 : w = 3
  · rw [if_pos w3]; exact phrase_le hW hA hk
  rw [if_neg w3]
  by_cases w4 : w = 4
  · rw [if_pos w4]; have := cont_le hW hA hk; omega
  · rw [if_neg w4]; have := part_le hW hA hk; omega
end BOUND
/-- the queue after a node got the focus -/
noncomputable def gfQ (A : At) (K : Kt) (W : Wt) (Q : List QI) (a : Nat) : List QI := if (jns [] (phraseW A K W a)) = [] then qFil (fun x => x.1 = 0) Q else apQ (qFil (fun x => x.1 = 0) Q) (0, nI a, -1, jns [] (phraseW A K W a))
/-- the queue after a change of b, in region r -/
noncomputable def acQ2 (A : At) (K : Kt) (W : Wt) (Q : List QI) (r b : Nat) : List QI := if (jns [] (partW A K W b)) = [] then Q else if A r 8 = 3 then apQ (qFil (fun x => x.1 = 2 ∧ x.2.2.1 = nI r) (qFil (fun x => x.1 ≠ 0 ∧ x.2.1 = nI b) Q)) (1, nI b, nI r, jns [] (partW A K W b)) else apQ (qFil (fun x => x.1 ≠ 0 ∧ x.2.1 = nI b) Q) (2, nI b, nI r, jns [] (partW A K W b))
/-- the queue after a change of a -/
noncomputable def acQ (A : At) (K : Kt) (W : Wt) (Q : List QI) (a : Nat) : List QI := cif (regn A (nI a) = -1 ∨ ¬ shownP A (nI a)) Q (acQ2 A K W Q (regn A (nI a)).toNatClampNeg (if A (regn A (nI a)).toNatClampNeg 9 = 1 then (regn A (nI a)).toNatClampNeg else a))
theorem regn_or {A : At} {K : Kt} (hW : WF A K) : ∀ v, orN A v → orN A (regn A v) := by
  refine chain_ind hW _ (by rw [regn_neg]; exact Or.inl rfl) (fun m hm ih => ?_)
  rw [regn_nI hW hm]
  by_cases h : A m 8 = 0
  · rw [if_pos h]; exact ih
  · rw [if_neg h]
    by_cases h1 : A m 8 = 1
    · rw [if_pos h1]; exact Or.inl rfl
    · rw [if_neg h1]; exact Or.inr ⟨m, hm, rfl⟩
def SL (Sh : Sp) (R : Nat → Nat → Option Nat) (σ : Nat) : Prop := Sh σ = some (.inl 3) ∧ R σ 0 = some (σ + 1) ∧ R σ 1 = some (σ + 110) ∧ R σ 2 = some (σ + 135)
/-- a scene of the class -/
def CS (Sh : Sp) (M : Mm) (σ : Nat) (A : At) (K : Kt) (W : Wt) (Q : List QI) (sp : List Int32) (fo rd la : Int32) : Prop := SL Sh M.2.1 σ ∧ CT Sh M (σ + 1) A K W ∧ M.1 (σ + 1) 9 = la ∧ QR Sh M (σ + 110) Q ∧ WR Sh M (σ + 135) 256 sp ∧ M.1 σ 3 = fo ∧ M.1 σ 4 = rd
section CSCENE
variable {Sh : Sp} {M : Mm} {σ ws n : Nat} {A : At} {K : Kt} {W : Wt} {Q : List QI} {sp : List Int32} {fo rd la : Int32}
theorem CS.agg {M' : Mm} {S : Nat → Prop} (h : CS Sh M σ A K W Q sp fo rd la) (ha : Ag S M M') (hS : ∀ a, σ ≤ a → a < σ + 137 → ¬ S a) : CS Sh M' σ A K W Q sp fo rd la := by
  obtain ⟨h1, h2, h3, h4, h5, h6, h7⟩ := h
  have e := ha.2 σ (hS _ (by omega) (by omega))
  refine ⟨?_, h2.Ag ha (fun a x y => hS a (by omega) (by omega)), by rw [(ha.2 (σ + 1) (hS _ (by omega) (by omega))).1]; exact h3, h4.Ag ha (fun a x y => hS a (by omega) (by omega)), h5.Ag ha (hS _ (by omega) (by omega)) (hS _ (by omega) (by omega)), by rw [e.1]; exact h6, by rw [e.1]; exact h7⟩
  unfold SL at h1 ⊢
  rw [e.2]
  exact h1
/-- what a scene's method may touch: the scene and the scratch words -/
def SS2 (σ ws : Nat) : Nat → Prop := fun a => (σ ≤ a ∧ a < σ + 137) ∨ a = ws ∨ a = ws + 1
theorem Ag.qf {M' : Mm} (h : QF (σ + 110) M M') : Ag (SS2 σ ws) M M' := Ag.mono h (fun a z => by unfold SS2; omega)
theorem Ag.qs {M' : Mm} (h : Ag (QS (σ + 110)) M M') : Ag (SS2 σ ws) M M' := Ag.mono h (fun a z => by unfold SS2; unfold QS at z; omega)
theorem AgI.ww {M' : Mm} (h : AgI (fun a => a = ws ∨ a = ws + 1) M M') : Ag (SS2 σ ws) M M' := Ag.mono h.toAg (fun a z => by unfold SS2; omega)
/-- the queue of a scene is another one -/
theorem CS.queue {M' : Mm} {Q' : List QI} (h : CS Sh M σ A K W Q sp fo rd la) (ha : Ag (QS (σ + 110)) M M') (hq : QR Sh M' (σ + 110) Q') : CS Sh M' σ A K W Q' sp fo rd la := by
  obtain ⟨h1, h2, h3, h4, h5, h6, h7⟩ := h
  have e := ha.2 σ (by unfold QS; omega)
  refine ⟨?_, h2.Ag ha (fun a x y => by unfold QS; omega), by rw [(ha.2 (σ + 1) (by unfold QS; omega)).1]; exact h3, hq, h5.Ag ha (by unfold QS; omega) (by unfold QS; omega), by rw [e.1]; exact h6, by rw [e.1]; exact h7⟩
  unfold SL at h1 ⊢
  rw [e.2]
  exact h1
theorem QF.qs {M' : Mm} (h : QF (σ + 110) M M') : Ag (QS (σ + 110)) M M' := Ag.mono h (fun a z => by unfold QS; omega)
theorem CS.foc (h : CS Sh M σ A K W Q sp fo rd la) (v : Int32) : CS Sh (uI M σ 3 v) σ A K W Q sp v rd la := by
  obtain ⟨h1, h2, h3, h4, h5, h6, h7⟩ := h
  have a1 : Ag (fun a => a = σ) M (uI M σ 3 v) := Ag.uI rfl
  exact ⟨h1, h2.Ag a1 (fun a x y => by omega), by rw [uI_off (by omega)]; exact h3, h4.Ag a1 (fun a x y => by omega), h5.Ag a1 (by omega) (by omega), uI_same, by rw [uI_row (by omega)]; exact h7⟩
theorem CS.rdl (h : CS Sh M σ A K W Q sp fo rd la) (v : Int32) : CS Sh (uI M σ 4 v) σ A K W Q sp fo v la := by
  obtain ⟨h1, h2, h3, h4, h5, h6, h7⟩ := h
  have a1 : Ag (fun a => a = σ) M (uI M σ 4 v) := Ag.uI rfl
  exact ⟨h1, h2.Ag a1 (fun a x y => by omega), by rw [uI_off (by omega)]; exact h3, h4.Ag a1 (fun a x y => by omega), h5.Ag a1 (by omega) (by omega), by rw [uI_row (by omega)]; exact h6, uI_same⟩
theorem CS.out {M' : Mm} (h : CS Sh M σ A K W Q sp fo rd la) (ha : AgI (fun a => a = ws ∨ a = ws + 1) M M') (ho : σ + 137 ≤ ws ∨ ws + 2 ≤ σ) : CS Sh M' σ A K W Q sp fo rd la := h.agg ha.toAg (fun a x y z => by omega)
theorem c_giveFocus (h : CS Sh M σ A K W Q sp fo rd la) (hW : WF A K) (hA : WA A W) (hn : 24 < n) (ho : σ + 137 ≤ ws ∨ ws + 2 ≤ σ) (hs : ∃ l, WR Sh M ws 256 l) {a : Nat} (ha : live A a) : ∃ M', fX3_giveFocus n Sh M σ (nI a) ws = some M' ∧ CS Sh M' σ A K W (gfQ A K W Q a) sp (nI a) rd la ∧ (∃ l, WR Sh M' ws 256 l) ∧ Ag (SS2 σ ws) M M' := by
  obtain ⟨l0, hs⟩ := hs
  unfold fX3_giveFocus
  simp only [qI_of]
  have c1 := h.foc (nI a)
  have a1 : Ag (SS2 σ ws) M (uI M σ 3 (nI a)) := Ag.uI (by unfold SS2; omega)
  have s1 : WR Sh (uI M σ 3 (nI a)) ws 256 l0 := hs.Ag (Ag.uI (S := fun a => a = σ) rfl) (by omega) (by omega)
  obtain ⟨M2, e2, r2, f2⟩ := q_dropFocus (n := n) c1.2.2.2.1 hn
  have c2 := c1.queue (QF.qs f2) r2
  have s2 := s1.Ag f2 (by omega) (by omega)
  rw [tF_of c1.1.2.2.1, chk_pos c1.2.2.2.1.1.1, bind_of e2, chk_pos hs.1]
  obtain ⟨M3, e3, r3, f3⟩ := w_empty (n := n) s2
  have f3' : AgI (fun a => a = ws ∨ a = ws + 1) M2 M3 := f3.mono (fun a z => Or.inl z)
  have c3 := c2.out f3' ho
  rw [bind_of e3, tF_of c3.1.2.1, chk_pos c3.2.1.1.1]
  have hle := phrase_le hW hA ha
  obtain ⟨M4, e4, r4, f4⟩ := c_phrase (n := n) (cap := 256) (o := ws) hW hA hn (by decide) (by omega) c3.2.1 r3 ha (by omega)
  have c4 := c3.out f4 ho
  rw [bind_of e4, gI_of r4.1, r4.2.2.2.1]
  simp only [nI_le0 (show (jns [] (phraseW A K W a)).length < 2 ^ 31 by omega), len0]
  have a4 : Ag (SS2 σ ws) M M4 := (a1.tr (Ag.qf f2)).tr ((AgI.ww f3').tr (AgI.ww f4))
  unfold gfQ
  by_cases hz : jns [] (phraseW A K W a) = []
  · rw [if_pos hz, if_pos hz]
    exact ⟨M4, rfl, c4, ⟨_, r4⟩, a4⟩
  · rw [if_neg hz, if_neg hz, tF_of c4.1.2.2.1, chk_pos c4.2.2.2.1.1.1]
    obtain ⟨M5, e5, r5, f5⟩ := q_append c4.2.2.2.1 hn r4 (by omega) 0 (nI a) (-1)
    rw [bind_of e5]
    exact ⟨M5, rfl, c4.queue f5 r5, ⟨_, r4.Ag f5 (by unfold QS; omega) (by unfold QS; omega)⟩, a4.tr (Ag.qs f5)⟩
theorem c_announceChange (h : CS Sh M σ A K W Q sp fo rd la) (hW : WF A K) (hA : WA A W) (hn : 24 < n) (ho : σ + 137 ≤ ws ∨ ws + 2 ≤ σ) (hs : ∃ l, WR Sh M ws 256 l) {a : Nat} (ha : live A a) : ∃ M', fX3_announceChange n Sh M σ (nI a) ws = some M' ∧ CS Sh M' σ A K W (acQ A K W Q a) sp fo rd la ∧ (∃ l, WR Sh M' ws 256 l) ∧ Ag (SS2 σ ws) M M' := by
  have main : ∀ r b, live A r → live A b → ∃ M', fX3_announceChange_44 n Sh σ (nI a) ws M (nI r) (nI b) = some M' ∧ CS Sh M' σ A K W (acQ2 A K W Q r b) sp fo rd la ∧ (∃ l, WR Sh M' ws 256 l) ∧ Ag (SS2 σ ws) M M' := by
    intro r b hr hb
    obtain ⟨l0, hs⟩ := hs
    unfold fX3_announceChange_44 acQ2
    obtain ⟨M3, e3, r3, f3⟩ := w_empty (n := n) hs
    have f3' : AgI (fun a => a = ws ∨ a = ws + 1) M M3 := f3.mono (fun a z => Or.inl z)
    have c3 := h.out f3' ho
    have hle := part_le hW hA hb
    obtain ⟨M4, e4, r4, f4⟩ := c_joinPart (n := n) (cap := 256) (o := ws) hW hA hn (by decide) (by omega) c3.2.1 r3 hb (by omega)
    have c4 := c3.out f4 ho
    have a4 : Ag (SS2 σ ws) M M4 := (AgI.ww f3').tr (AgI.ww f4)
    rw [chk_pos hs.1, bind_of e3, tF_of c3.1.2.1, chk_pos c3.2.1.1.1, bind_of e4, gI_of r4.1, r4.2.2.2.1]
    simp only [nI_eq0 (show (jns [] (partW A K W b)).length < 2 ^ 31 by omega), len0]
    by_cases hz : jns [] (partW A K W b) = []
    · rw [if_pos hz, if_pos hz]
      exact ⟨M4, rfl, c4, ⟨_, r4⟩, a4⟩
    · rw [if_neg hz, if_neg hz, tF_of c4.1.2.2.1, chk_pos c4.2.2.2.1.1.1]
      obtain ⟨M5, e5, r5, f5⟩ := q_dropChangeOf c4.2.2.2.1 hn (nI b)
      have c5 := c4.queue (QF.qs f5) r5
      have w5 := r4.Ag f5 (by omega) (by omega)
      rw [bind_of e5, tF_of c5.1.2.1, chk_pos c5.2.1.1.1, bind_of (c_set3 c5.2.1 _), rd_nI hr.1]
      by_cases h3 : A r 8 = 3
      · rw [if_pos h3, if_pos h3, tF_of c5.1.2.2.1, chk_pos c5.2.2.2.1.1.1]
        obtain ⟨M6, e6, r6, f6⟩ := q_dropPolite c5.2.2.2.1 hn (nI r)
        have c6 := c5.queue (QF.qs f6) r6
        have w6 := w5.Ag f6 (by omega) (by omega)
        rw [bind_of e6, tF_of c6.1.2.2.1, chk_pos c6.2.2.2.1.1.1]
        obtain ⟨M7, e7, r7, f7⟩ := q_append c6.2.2.2.1 hn w6 (by omega) 1 (nI b) (nI r)
        rw [bind_of e7]
        exact ⟨M7, rfl, c6.queue f7 r7, ⟨_, w6.Ag f7 (by unfold QS; omega) (by unfold QS; omega)⟩, (a4.tr (Ag.qf f5)).tr ((Ag.qf f6).tr (Ag.qs f7))⟩
      · rw [if_neg h3, if_neg h3, tF_of c5.1.2.2.1, chk_pos c5.2.2.2.1.1.1]
        obtain ⟨M7, e7, r7, f7⟩ := q_append c5.2.2.2.1 hn w5 (by omega) 2 (nI b) (nI r)
        rw [bind_of e7]
        exact ⟨M7, rfl, c5.queue f7 r7, ⟨_, w5.Ag f7 (by unfold QS; omega) (by unfold QS; omega)⟩, (a4.tr (Ag.qf f5)).tr (Ag.qs f7)⟩
  unfold fX3_announceChange acQ
  rw [tF_of h.1.2.1, chk_pos h.2.1.1.1, bind_of (c_regionOf h.2.1 hW hn ha)]
  rcases regn_or hW _ (Or.inr ⟨a, ha, rfl⟩) with e | ⟨r, hr, e⟩
  · rw [e, if_pos rfl, cif_pos (Or.inl rfl)]
    exact ⟨M, rfl, h, hs, Ag.rf⟩
  · rw [e, if_neg (nI_ne_neg hr.lt), tF_of h.1.2.1, chk_pos h.2.1.1.1, bind_of (c_isShown h.2.1 hW hn (Or.inr ⟨a, ha, rfl⟩))]
    by_cases hsh : shownP A (nI a)
    · rw [i0 ⟨⟨a, ha, rfl⟩, hsh⟩, cif_neg (fun z => z.elim (nI_ne_neg hr.lt) (fun y => y hsh)), tF_of h.1.2.1, chk_pos h.2.1.1.1, bind_of (c_set4 h.2.1 _), rd_nI hr.1, nI_clamp hr.lt]
      by_cases h9 : A r 9 = 1
      · rw [if_pos h9, if_pos h9]
        exact main r r hr hr
      · rw [if_neg h9, if_neg h9]
        exact main r a hr ha
    · rw [i0n (fun z => hsh z.2), cif_pos (Or.inr hsh)]
      exact ⟨M, rfl, h, hs, Ag.rf⟩
end CSCENE
