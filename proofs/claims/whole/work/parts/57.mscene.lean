/-! ===== LEVEL 2: a scene of the reference ===== -/
/-- the page holds a scene -/
def MS (pg : Nat → Int32) (A : At) (K : Kt) (W : Wt) (Q : List QI) (sp : List Int32) (fo rd la : Int32) : Prop := MP pg A K W ∧ MQu pg Q ∧ pg 3161 = nI sp.length ∧ sp.length ≤ 240 ∧ (∀ j, j < sp.length → pg (3162 + j) = sp.getD j 0) ∧ pg 3402 = fo ∧ pg 3403 = rd ∧ pg 3404 = la
/-- all but records and buffer may have changed -/
def MC (μ : Nat) (M M' : Mm) : Prop := M'.2 = M.2 ∧ (∀ a, a ≠ μ → a ≠ μ + 1 → a ≠ μ + 4 → a ≠ μ + 5 → a ≠ μ + 6 → M'.1 a = M.1 a) ∧ ∀ k, k ≠ 7 → k ≠ 10 → M'.1 μ k = M.1 μ k
theorem MC.rf {μ : Nat} {M : Mm} : MC μ M M := ⟨rfl, fun _ _ _ _ _ _ => rfl, fun _ _ _ => rfl⟩
theorem MC.tr {μ : Nat} {M M1 M2 : Mm} (h : MC μ M M1) (h' : MC μ M1 M2) : MC μ M M2 := ⟨h'.1.trans h.1, fun a x1 x2 x3 x4 x5 => (h'.2.1 a x1 x2 x3 x4 x5).trans (h.2.1 a x1 x2 x3 x4 x5), fun k x1 x2 => (h'.2.2 k x1 x2).trans (h.2.2 k x1 x2)⟩
theorem WS.mc {μ : Nat} {M M' : Mm} (h : WS μ M M') : MC μ M M' := ⟨h.1, fun a x1 _ x3 _ _ => h.2.1 a x1 x3, fun k x2 _ => h.2.2 k x2⟩
theorem OS.mc {μ : Nat} {M M' : Mm} (h : OS μ M M') : MC μ M M' := ⟨h.1, fun a x1 _ _ _ x5 => h.2.1 a x1 x5, fun k _ x3 => h.2.2 k x3⟩
theorem PS.mc {μ : Nat} {S : Nat → Prop} {M M' : Mm} (h : PS μ S M M') : MC μ M M' := ⟨h.1, fun a _ x2 _ _ _ => h.2.1 a x2, fun k _ _ => by rw [h.2.1 μ (by omega)]⟩
theorem MC.u7 {μ : Nat} {M : Mm} {v : Int32} : MC μ M (uI M μ 7 v) := ⟨rfl, fun a x1 _ _ _ _ => uI_off x1, fun k x2 _ => uI_row x2⟩
theorem MC.g {μ : Nat} {M : Mm} {k : Nat} {v : Int32} : MC μ M (uI M (μ + 5) k v) := ⟨rfl, fun a _ _ _ x4 _ => uI_off x4, fun j _ _ => by rw [uI_off (by omega)]⟩
theorem MC.ml {Sh : Sp} {μ : Nat} {M M' : Mm} (h : MC μ M M') (hL : ML Sh M.2.1 μ) : ML Sh M'.2.1 μ := by rw [h.1]; exact hL
section MSCENE
variable {Sh : Sp} {M M' : Mm} {μ n : Nat} {A : At} {K : Kt} {W : Wt} {Q : List QI} {sp : List Int32} {fo rd la : Int32}
theorem MS.ws (h : MS (M.1 (μ + 1)) A K W Q sp fo rd la) (w : WS μ M M') : MS (M'.1 (μ + 1)) A K W Q sp fo rd la := by rw [w.2.1 _ (by omega) (by omega)]; exact h
theorem MS.os (h : MS (M.1 (μ + 1)) A K W Q sp fo rd la) (w : OS μ M M') : MS (M'.1 (μ + 1)) A K W Q sp fo rd la := by rw [w.2.1 _ (by omega) (by omega)]; exact h
theorem MS.u5 (h : MS (M.1 (μ + 1)) A K W Q sp fo rd la) (v : Int32) : MS ((uI M μ 5 v).1 (μ + 1)) A K W Q sp fo rd la := by rw [uI_off (by omega)]; exact h
theorem MS.queue {Q' : List QI} (h : MS (M.1 (μ + 1)) A K W Q sp fo rd la) (hA : WA A W) (p : PS μ QP M M') (hq : MQu (M'.1 (μ + 1)) Q') : MS (M'.1 (μ + 1)) A K W Q' sp fo rd la := by
  obtain ⟨h1, h2, h3, h4, h5, h6, h7, h8⟩ := h
  have e : ∀ i, 3161 ≤ i → M'.1 (μ + 1) i = M.1 (μ + 1) i := fun i hi => p.2.2 i (by unfold QP; omega)
  exact ⟨p.mp (fun i hi => by unfold QP; omega) hA h1, hq, by rw [e _ (by omega)]; exact h3, h4, fun j hj => by rw [e _ (by omega)]; exact h5 j hj, by rw [e _ (by omega)]; exact h6, by rw [e _ (by omega)]; exact h7, by rw [e _ (by omega)]; exact h8⟩
theorem MQu.ps {S : Nat → Prop} (h : MQu (M.1 (μ + 1)) Q) (p : PS μ S M M') (hS : ∀ i, QP i → ¬ S i) : MQu (M'.1 (μ + 1)) Q := by
  obtain ⟨h1, h2, h3⟩ := h
  have e : ∀ i, 720 ≤ i → i < 3161 → M'.1 (μ + 1) i = M.1 (μ + 1) i := fun i hi hj => p.2.2 i (hS i ⟨hi, hj⟩)
  refine ⟨by rw [e _ (by omega) (by omega)]; exact h1, h2, fun i x hx => ?_⟩
  have hi := (List.getElem?_eq_some_iff.mp hx).1
  obtain ⟨r1, r2, r3, r4, r5, r6⟩ := h3 i x hx
  exact ⟨by rw [e _ (by omega) (by omega)]; exact r1, by rw [e _ (by omega) (by omega)]; exact r2, by rw [e _ (by omega) (by omega)]; exact r3, by rw [e _ (by omega) (by omega)]; exact r4, r5, fun j hj => by rw [e _ (by omega) (by omega)]; exact r6 j hj⟩
theorem MS.foc (h : MS (M.1 (μ + 1)) A K W Q sp fo rd la) (hA : WA A W) (v : Int32) : MS ((uI M (μ + 1) 3402 v).1 (μ + 1)) A K W Q sp v rd la := by
  have p : PS μ (fun i => i = 3402) M (uI M (μ + 1) 3402 v) := PS.u rfl
  obtain ⟨h1, h2, h3, h4, h5, h6, h7, h8⟩ := h
  exact ⟨p.mp (fun i hi => by omega) hA h1, h2.ps p (fun i hi => by unfold QP at hi; omega), by rw [uI_row (by omega)]; exact h3, h4, fun j hj => by rw [uI_row (by omega)]; exact h5 j hj, uI_same, by rw [uI_row (by omega)]; exact h7, by rw [uI_row (by omega)]; exact h8⟩
theorem MS.rdl (h : MS (M.1 (μ + 1)) A K W Q sp fo rd la) (hA : WA A W) (v : Int32) : MS ((uI M (μ + 1) 3403 v).1 (μ + 1)) A K W Q sp fo v la := by
  have p : PS μ (fun i => i = 3403) M (uI M (μ + 1) 3403 v) := PS.u rfl
  obtain ⟨h1, h2, h3, h4, h5, h6, h7, h8⟩ := h
  exact ⟨p.mp (fun i hi => by omega) hA h1, h2.ps p (fun i hi => by unfold QP at hi; omega), by rw [uI_row (by omega)]; exact h3, h4, fun j hj => by rw [uI_row (by omega)]; exact h5 j hj, by rw [uI_row (by omega)]; exact h6, uI_same, by rw [uI_row (by omega)]; exact h8⟩
/-- announcements of good ranks -/
def QOK (A : At) (Q : List QI) : Prop := ∀ x ∈ Q, (x.1 = 0 ∨ x.1 = 1 ∨ x.1 = 2) ∧ isN A x.2.1 ∧ orN A x.2.2.1
theorem QOK.sub {Q' : List QI} (h : QOK A Q) (hs : ∀ x ∈ Q', x ∈ Q) : QOK A Q' := fun x hx => h x (hs x hx)
theorem QOK.fil (h : QOK A Q) (P : QI → Prop) : QOK A (qFil P Q) := h.sub (fun x hx => (List.mem_filter.mp hx).1)
theorem QOK.app (h : QOK A Q) {x : QI} (hx : (x.1 = 0 ∨ x.1 = 1 ∨ x.1 = 2) ∧ isN A x.2.1 ∧ orN A x.2.2.1) : QOK A (apQ Q x) := by
  intro y hy
  unfold apQ at hy
  rcases List.mem_append.mp hy with hy | hy
  · by_cases hl : Q.length < 10
    · rw [if_pos hl] at hy; exact h y hy
    · rw [if_neg hl] at hy; exact h y (List.mem_of_mem_eraseIdx hy)
  · rw [List.mem_singleton.mp hy]; exact hx
theorem qFil2 (P P' : QI → Prop) (Q : List QI) : qFil P' (qFil P Q) = qFil (fun x => P x ∨ P' x) Q := by
  unfold qFil
  rw [List.filter_filter]
  congr 1
  funext x
  by_cases h1 : P x
  · rw [cB_neg (P := ¬ P x) (fun z => z h1), cB_neg (P := ¬ (P x ∨ P' x)) (fun z => z (Or.inl h1)), Bool.and_false]
  · rw [cB_pos (P := ¬ P x) h1, Bool.and_true]
    by_cases h2 : P' x
    · rw [cB_neg (P := ¬ P' x) (fun z => z h2), cB_neg (P := ¬ (P x ∨ P' x)) (fun z => z (Or.inr h2))]
    · rw [cB_pos (P := ¬ P' x) h2, cB_pos (P := ¬ (P x ∨ P' x)) (fun z => z.elim h1 h2)]
theorem qFil_congr {P P' : QI → Prop} {Q : List QI} (h : ∀ x ∈ Q, P x ↔ P' x) : qFil P Q = qFil P' Q := by
  unfold qFil
  apply List.filter_congr
  intro x hx
  rw [propext (h x hx)]
theorem m_focuses (hL : ML Sh M.2.1 μ) (h : MS (M.1 (μ + 1)) A K W Q sp fo rd la) (hW : WF A K) (hA : WA A W) (hn : 20000 < n) {a : Nat} (ha : live A a) : ∃ M', fX7_focuses n Sh M μ (nI a) = some M' ∧ MS (M'.1 (μ + 1)) A K W (gfQ A K W Q a) sp (nI a) rd la ∧ MC μ M M' := by
  unfold fX7_focuses fX7_announceFocus fX7_announceFocus_11
  have e0 : ∀ {ρ : Type} {X : Mm → Option ρ}, (tF M μ 0 fun b => sI Sh M b 3402 (nI a) X) = X (uI M (μ + 1) 3402 (nI a)) := fun {ρ X} => by
    rw [tF_of hL.2.1.1]
    exact sI_nI (j := 3402) hL.2.2.1 (by decide) (by decide)
  rw [e0]
  have h1 := h.foc hA (nI a)
  have c1 : MC μ M (uI M (μ + 1) 3402 (nI a)) := (PS.u (S := fun i => i = 3402) rfl).mc
  generalize uI M (μ + 1) 3402 (nI a) = M1 at *
  have hL1 := c1.ml hL
  rw [m_at720 hL1, h1.2.1.1]
  obtain ⟨M2, e2, ⟨r2, hL2⟩, p2⟩ := q_down (R := fun M Q => MQu (M.1 (μ + 1)) Q ∧ ML Sh M.2.1 μ) (Fr := PS μ QP) (f := fun s : Int32 × Mm => fX7_announceFocus_11b n Sh μ (nI a) s.2 s.1) (g := fun M => fX7_announceFocus_38 n Sh μ (nI a) M) (fun x => x.1 = 0) (fun M => PS.rf) (fun a b => PS.tr a b) (fun M => rfl) (fun M Q k x hR hl hx => by
    obtain ⟨hR, hL⟩ := hR
    have hk := (List.getElem?_eq_some_iff.mp hx).1
    unfold fX7_announceFocus_11b fX7_announceFocus_32
    dsimp only
    rw [if_neg (nI_pos (by omega))]
    simp only [m_st, bindS]
    rw [m_rank hL hR hx]
    constructor
    · intro hP
      obtain ⟨M', e, r, p⟩ := m_drop hL hR hn hk
      rw [if_pos hP, bind_of e]
      exact ⟨M', rfl, ⟨r, p.ml hL⟩, p⟩
    · intro hP
      rw [if_neg hP]) (by omega) ⟨h1.2.1, hL1⟩ h1.2.1.2.1 (n := n)
  rw [e2]
  have h2 := h1.queue hA p2 r2
  unfold fX7_announceFocus_38
  have hle := phrase_le hW hA ha
  obtain ⟨M3, e3, r3, w3⟩ := m_lay hL2 h2.1 hW hA (n := n) (by omega) ha 3 (by have := kind_le hW hA ha 3; omega)
  have hk3 : kindW A K W a 3 = phraseW A K W a := by unfold kindW; rw [if_neg (by decide), if_neg (by decide), if_neg (by decide), if_pos rfl]
  rw [hk3] at r3
  have h3 := h2.ws w3
  rw [bind_of e3]
  simp only [tI_of, r3.1, nI_le0 (show (jns [] (phraseW A K W a)).length < 2 ^ 31 by omega), len0]
  unfold gfQ
  by_cases hz : jns [] (phraseW A K W a) = []
  · rw [if_pos hz, if_pos hz]
    exact ⟨M3, rfl, h3, c1.tr (p2.mc.tr w3.mc)⟩
  · rw [if_neg hz, if_neg hz]
    obtain ⟨M4, e4, r4, p4⟩ := m_queues (w3.ml hL2) h3.2.1 hn r3 hle 0 (nI a) (-1)
    rw [bind_of e4]
    exact ⟨M4, rfl, h3.queue hA p4 r4, c1.tr (p2.mc.tr (w3.mc.tr p4.mc))⟩
theorem m_announceChange (hL : ML Sh M.2.1 μ) (h : MS (M.1 (μ + 1)) A K W Q sp fo rd la) (hW : WF A K) (hA : WA A W) (hQ : QOK A Q) (hn : 20000 < n) {a : Nat} (ha : live A a) : ∃ M', fX7_announceChange n Sh M μ (nI a) = some M' ∧ MS (M'.1 (μ + 1)) A K W (acQ A K W Q a) sp fo rd la ∧ MC μ M M' := by
  have main : ∀ r b, live A r → live A b → ∃ M', fX7_announceChange_36 n Sh μ (nI a) M (nI r) (nI b) = some M' ∧ MS (M'.1 (μ + 1)) A K W (acQ2 A K W Q r b) sp fo rd la ∧ MC μ M M' := by
    intro r b hr hb
    have hle := part_le hW hA hb
    obtain ⟨M3, e3, r3, w3⟩ := m_lay hL h.1 hW hA (n := n) (by omega) hb 5 (by have := kind_le hW hA hb 5; omega)
    have hk3 : kindW A K W b 5 = partW A K W b := by unfold kindW; rw [if_neg (by decide), if_neg (by decide), if_neg (by decide), if_neg (by decide), if_neg (by decide)]
    rw [hk3] at r3
    have h3 := h.ws w3
    have hL3 := w3.ml hL
    unfold fX7_announceChange_36 acQ2
    rw [bind_of e3]
    simp only [tI_of, r3.1, nI_eq0 (show (jns [] (partW A K W b)).length < 2 ^ 31 by omega), len0]
    by_cases hz : jns [] (partW A K W b) = []
    · rw [if_pos hz, if_pos hz]
      exact ⟨M3, rfl, h3, w3.mc⟩
    · rw [if_neg hz, if_neg hz, bind_of (mo8 hL3 h3.1 hr)]
      have fin : ∀ (t0 : Int32) (P : QI → Prop), (∀ x : QI, (x.1 = 0 ∨ x.1 = 1 ∨ x.1 = 2) → (P x ↔ ((x.1 ≠ 0 ∧ x.2.1 = nI b) ∨ (t0 = 1 ∧ x.1 = 2 ∧ x.2.2.1 = nI r)))) → ∃ M', fX7_announceChange_67 n Sh μ (nI a) M3 (nI r) (nI b) t0 = some M' ∧ MS (M'.1 (μ + 1)) A K W (apQ (qFil P Q) (t0, nI b, nI r, jns [] (partW A K W b))) sp fo rd la ∧ MC μ M M' := by
        intro t0 P hP
        unfold fX7_announceChange_67 fX7_announceChange_81
        rw [m_at720 hL3, h3.2.1.1]
        obtain ⟨M4, e4, ⟨r4, hL4, -⟩, p4⟩ := q_down (R := fun M Q' => MQu (M.1 (μ + 1)) Q' ∧ ML Sh M.2.1 μ ∧ QOK A Q') (Fr := PS μ QP) (f := fun s : Int32 × Mm => fX7_announceChange_81b n Sh μ (nI a) s.2 (nI r) (nI b) t0 s.1) (g := fun M => fX7_announceChange_158 n Sh μ (nI a) M (nI r) (nI b) t0) P (fun M => PS.rf) (fun a b => PS.tr a b) (fun M => rfl) (fun M Q k x hR hl hx => by
          obtain ⟨hR, hL, hok⟩ := hR
          have hk := (List.getElem?_eq_some_iff.mp hx).1
          have hokx := (hok x (List.mem_of_getElem? hx)).1
          have hPx := hP x hokx
          obtain ⟨g1, g2, g3, -⟩ := hR.2.2 k x hx
          have s1 : ∀ {ρ : Type} {X : Int32 → Option ρ}, (tF M μ 0 fun b => aI Sh M b 0 (nI (721 + 244 * k) + 1) X) = X x.2.1 := fun {ρ X} => by
            rw [nI_add1, m_at hL (by omega), g2]
          have s2 : ∀ {ρ : Type} {X : Int32 → Option ρ}, (tF M μ 0 fun b => aI Sh M b 0 (nI (721 + 244 * k) + 2) X) = X x.2.2.1 := fun {ρ X} => by
            rw [show nI (721 + 244 * k) + 2 = nI (721 + 244 * k + 2) from nI_addm _ 2, m_at hL (by omega), g3]
          have dr : P x → ∃ M', fX7_announceChange_146 n Sh μ (nI a) M (nI r) (nI b) t0 (nI k) = some (Sum.inl (nI k + (-1), M')) ∧ (MQu (M'.1 (μ + 1)) (Q.eraseIdx k) ∧ ML Sh M'.2.1 μ ∧ QOK A (Q.eraseIdx k)) ∧ PS μ QP M M' := fun _ => by
            obtain ⟨M', e, r, p⟩ := m_drop hL hR hn hk
            unfold fX7_announceChange_146 fX7_announceChange_152
            rw [bind_of e]
            exact ⟨M', rfl, ⟨r, p.ml hL, hok.sub (fun y hy => List.mem_of_mem_eraseIdx hy)⟩, p⟩
          have le0 : x.1 ≤ 0 ↔ x.1 = 0 := by
            rcases hokx with z | z | z <;> rw [z] <;> decide
          unfold fX7_announceChange_81b fX7_announceChange_116 
          dsimp only
          rw [if_neg (nI_pos (by omega))]
          simp only [m_st, bindS]
          rw [m_rank hL hR hx, m_rank hL hR hx, s1, s2]
          by_cases c0 : x.1 ≤ 0
          · rw [if_pos c0]
            have hz := le0.mp c0
            have hn : ¬ P x := fun z => by
              rcases hPx.mp z with y | y
              · exact y.1 hz
              · rw [y.2.1] at hz; exact absurd hz (by decide)
            refine ⟨fun z => absurd z hn, fun _ => ?_⟩
            unfold fX7_announceChange_152
            by_cases t1 : t0 = 1
            · rw [if_pos t1, if_neg (fun z => by rw [z] at hz; exact absurd hz (by decide))]
            · rw [if_neg t1]
          · rw [if_neg c0]
            have hz : x.1 ≠ 0 := fun z => c0 (le0.mpr z)
            by_cases c1 : x.2.1 = nI b
            · rw [if_pos c1]
              have hp : P x := hPx.mpr (Or.inl ⟨hz, c1⟩)
              exact ⟨fun _ => dr hp, fun z => absurd hp z⟩
            · rw [if_neg c1]
              by_cases t1 : t0 = 1
              · rw [if_pos t1]
                by_cases c2 : x.1 = 2
                · rw [if_pos c2]
                  by_cases c3 : x.2.2.1 = nI r
                  · rw [if_pos c3]
                    have hp : P x := hPx.mpr (Or.inr ⟨t1, c2, c3⟩)
                    exact ⟨fun _ => dr hp, fun z => absurd hp z⟩
                  · rw [if_neg c3]
                    exact ⟨fun z => ((hPx.mp z).elim (fun y => absurd y.2 c1) (fun y => absurd y.2.2 c3)), fun _ => rfl⟩
                · rw [if_neg c2]
                  exact ⟨fun z => ((hPx.mp z).elim (fun y => absurd y.2 c1) (fun y => absurd y.2.1 c2)), fun _ => rfl⟩
              · rw [if_neg t1]
                exact ⟨fun z => ((hPx.mp z).elim (fun y => absurd y.2 c1) (fun y => absurd y.1 t1)), fun _ => rfl⟩) (by omega) ⟨h3.2.1, hL3, hQ⟩ h3.2.1.2.1 (n := n)
        rw [e4]
        have h4 := h3.queue hA p4 r4
        unfold fX7_announceChange_158
        obtain ⟨M5, e5, r5, p5⟩ := m_queues hL4 h4.2.1 hn (r3.ps p4) (by omega) t0 (nI b) (nI r)
        rw [bind_of e5]
        exact ⟨M5, rfl, h4.queue hA p5 r5, w3.mc.tr (p4.mc.tr p5.mc)⟩
      by_cases h8 : A r 8 = 3
      · rw [if_pos h8, if_pos h8, qFil2]
        exact fin 1 _ (fun x _ => ⟨fun z => z.elim Or.inl (fun y => Or.inr ⟨rfl, y⟩), fun z => z.elim Or.inl (fun y => Or.inr y.2)⟩)
      · rw [if_neg h8, if_neg h8]
        exact fin 2 _ (fun x _ => ⟨Or.inl, fun z => z.elim id (fun y => absurd y.1 (by decide))⟩)
  unfold fX7_announceChange acQ
  rw [bind_of (m_regionOf hL h.1 hW (by omega) ha)]
  rcases regn_or hW _ (Or.inr ⟨a, ha, rfl⟩) with e | ⟨r, hr, e⟩
  · rw [e, if_pos rfl, cif_pos (Or.inl rfl)]
    exact ⟨M, rfl, h, MC.rf⟩
  · rw [e, if_neg (nI_ne_neg hr.lt), bind_of (m_isShown hL h.1 hW (by omega) ha)]
    by_cases hsh : shownP A (nI a)
    · rw [i0 hsh, cif_neg (fun z => z.elim (nI_ne_neg hr.lt) (fun y => y hsh)), bind_of (mo9 hL h.1 hr), nI_clamp hr.lt]
      by_cases h9 : A r 9 = 1
      · rw [if_pos h9, if_pos h9]
        exact main r r hr hr
      · rw [if_neg h9, if_neg h9]
        exact main r a hr ha
    · rw [i0n hsh, cif_pos (Or.inr hsh)]
      exact ⟨M, rfl, h, MC.rf⟩
end MSCENE
