/-! ===== LEVEL 2: the class: nodes are dropped; a scene forgets them ===== -/
noncomputable def remA (A : At) (G : Nat → Prop) : At := fun i s => cif (G i) (bgv (-1) s) (cif ((s = 2 ∨ s = 4) ∧ inM G (A i s)) (-1) (A i s))
noncomputable def remK (K : Kt) (G : Nat → Prop) (p top : Nat) : Kt := fun i => cif (G i) [] (if i = p then (K p).eraseIdx ((K p).idxOf top) else K i)
noncomputable def remW (W : Wt) (G : Nat → Prop) : Wt := fun i s => cif (G i) [] (W i s)
noncomputable def dA (A : At) (G : Nat → Prop) (j : Nat) : At := fun i s => if i < j then remA A G i s else A i s
noncomputable def dK (K : Kt) (G : Nat → Prop) (p top j : Nat) : Kt := fun i => cif (i < j ∧ G i) [] (if i = p ∧ top < j then (K p).eraseIdx ((K p).idxOf top) else K i)
noncomputable def dW (W : Wt) (G : Nat → Prop) (j : Nat) : Wt := fun i s => cif (i < j ∧ G i) [] (W i s)
noncomputable def fgV (G : Nat → Prop) (v : Int32) : Int32 := cif (inM G v) (-1) v
theorem inM_nI {P : Nat → Prop} {j : Nat} (h : j < 24) : inM P (nI j) ↔ P j := ⟨fun ⟨k, hk, e, z⟩ => by have := nI_inj (by omega) (by omega) e; subst this; exact z, fun z => ⟨j, h, rfl, z⟩⟩
theorem inM_neg {P : Nat → Prop} : ¬ inM P (-1) := fun ⟨k, hk, e, _⟩ => nI_ne_neg (by omega) e.symm
section DROP
variable {Sh : Sp} {M M' : Mm} {t σ n : Nat} {A A' : At} {K K' : Kt} {W W' : Wt} {G : Nat → Prop} {j p top : Nat}
theorem dA_ne {i s : Nat} (h : i ≠ j) : dA A G (j + 1) i s = dA A G j i s := by
  unfold dA
  by_cases c : i < j
  · rw [if_pos c, if_pos (by omega)]
  · rw [if_neg c, if_neg (by omega)]
theorem dA_eq {s : Nat} : dA A G (j + 1) j s = remA A G j s := if_pos (by omega)
theorem dA_at {s : Nat} : dA A G j j s = A j s := if_neg (by omega)
theorem c_drop39 (h : CT Sh M t A K W) (hj : j < 24) : ∃ M', fX4_drop_39 n Sh t (mk G) M (nI j) = some (.inl (nI j + 1, M')) ∧ CT Sh M' t (fun i s => if i = j ∧ (s = 2 ∨ s = 4) then cif (inM G (A j s)) (-1) (A j s) else A i s) K W ∧ AgI (TS t) M M' := by
  have s59 : ∀ (M : Mm) (A : At), CT Sh M t A K W → ∃ M', fX4_drop_59 n Sh t (mk G) M (nI j) = some (.inl (nI j + 1, M')) ∧ CT Sh M' t (fun i s => if i = j ∧ s = 4 then cif (inM G (A j s)) (-1) (A j s) else A i s) K W ∧ AgI (TS t) M M' := by
    intro M A h
    unfold fX4_drop_59 fX4_drop_79
    rw [tF_of h.1.2.1.2.2.2.2.2.2.2.2.2.1, aI_nI h.1.2.2.1.2.2.2.2.2.2.2.2.2 hj (by decide), (h.2.1 j hj).2.2.2.2.2.1, bind_of (c_isIn G _)]
    by_cases c : inM G (A j 4)
    · rw [i0 c, tF_of h.1.2.1.2.2.2.2.2.2.2.2.2.1, sI_nI h.1.2.2.1.2.2.2.2.2.2.2.2.2 hj (by decide)]
      refine ⟨_, rfl, (h.ci (agt (by omega)) (ci4 h.2.1)).cong (fun i hi s hs => ?_) (fun _ _ => rfl) (fun _ _ => ⟨rfl, rfl⟩), agTS (agt (by omega))⟩
      by_cases c1 : i = j ∧ s = 4
      · rw [if_pos c1]
        obtain ⟨rfl, rfl⟩ := c1
        rw [cif_pos c, sA_s]
      · rw [if_neg c1]
        exact (if_neg c1).symm
    · rw [i0n c]
      refine ⟨_, rfl, h.cong (fun i hi s hs => ?_) (fun _ _ => rfl) (fun _ _ => ⟨rfl, rfl⟩), AgI.rf⟩
      by_cases c1 : i = j ∧ s = 4
      · rw [if_pos c1]
        obtain ⟨rfl, rfl⟩ := c1
        rw [cif_neg c]
      · rw [if_neg c1]
  unfold fX4_drop_39
  rw [tF_of h.1.2.1.2.2.2.2.1, aI_nI h.1.2.2.1.2.2.2.2.1 hj (by decide), (h.2.1 j hj).2.2.2.1, bind_of (c_isIn G _)]
  by_cases c : inM G (A j 2)
  · rw [i0 c, tF_of h.1.2.1.2.2.2.2.1, sI_nI h.1.2.2.1.2.2.2.2.1 hj (by decide)]
    have h1 := h.ci (agt (M := M) (k := j) (v := -1) (show t + 1 ≤ t + 5 ∧ t + 5 ≤ t + 10 by omega)) (ci2 h.2.1)
    obtain ⟨M', e, r, f⟩ := s59 _ _ h1
    refine ⟨M', e, r.cong (fun i hi s hs => ?_) (fun _ _ => rfl) (fun _ _ => ⟨rfl, rfl⟩), (agTS (agt (by omega))).tr f⟩
    by_cases c1 : i = j ∧ s = 4
    · obtain ⟨rfl, rfl⟩ := c1
      rw [if_pos ⟨rfl, Or.inr rfl⟩, if_pos ⟨rfl, rfl⟩, sA_k (by decide)]
    · rw [if_neg c1]
      by_cases c2 : i = j ∧ s = 2
      · obtain ⟨rfl, rfl⟩ := c2
        rw [if_pos ⟨rfl, Or.inl rfl⟩, cif_pos c, sA_s]
      · rw [if_neg (fun z => z.2.elim (fun y => c2 ⟨z.1, y⟩) (fun y => c1 ⟨z.1, y⟩))]
        exact (if_neg c2).symm
  · rw [i0n c]
    obtain ⟨M', e, r, f⟩ := s59 _ _ h
    refine ⟨M', e, r.cong (fun i hi s hs => ?_) (fun _ _ => rfl) (fun _ _ => ⟨rfl, rfl⟩), f⟩
    by_cases c1 : i = j ∧ s = 4
    · obtain ⟨rfl, rfl⟩ := c1
      rw [if_pos ⟨rfl, Or.inr rfl⟩, if_pos ⟨rfl, rfl⟩]
    · rw [if_neg c1]
      by_cases c2 : i = j ∧ s = 2
      · obtain ⟨rfl, rfl⟩ := c2
        rw [if_pos ⟨rfl, Or.inl rfl⟩, cif_neg c]
      · rw [if_neg (fun z => z.2.elim (fun y => c2 ⟨z.1, y⟩) (fun y => c1 ⟨z.1, y⟩))]
theorem c_drop (h : CT Sh M t A K W) (hn : 24 < n) (htop : top < 24) (hGt : G top) (e : A top 1 = nI p) (hp : live A p) (hGp : ¬ G p) (hk : top ∈ K p) (hd : (K p).Nodup) (hb : ∀ x ∈ K p, x < 24) (hG : ∀ j, j < 24 → G j → j ≠ top → ∃ q, q < 24 ∧ A j 1 = nI q ∧ G q) : ∃ M', fX4_drop n Sh M t (mk G) = some M' ∧ CT Sh M' t (remA A G) (remK K G p top) (remW W G) ∧ AgI (TS t) M M' := by
  unfold fX4_drop fX4_drop_2
  have hpt : p ≠ top := fun z => hGp (by rw [z]; exact hGt)
  obtain ⟨M1, e1, r1, f1⟩ := iter_inv (f := fun s : Int32 × Mm => fX4_drop_2b n Sh t (mk G) s.2 s.1) 24 (fun j s => s.1 = nI j ∧ CT Sh s.2 t (dA A G j) (dK K G p top j) (dW W G j) ∧ AgI (TS t) M s.2) (fun M' => CT Sh M' t (remA A G) (remK K G p top) (remW W G) ∧ AgI (TS t) M M') (fun j s hj hI => by
    obtain ⟨v, M1⟩ := s
    obtain ⟨rfl, hc, hf⟩ := hI
    dsimp only at hc hf ⊢
    unfold fX4_drop_2b
    by_cases h24 : j < 24
    · rw [if_pos (lt24 h24), bind_of (c_isIn G _), bI_congr (inM_nI h24)]
      by_cases g : G j
      · rw [i0 g, bind_of (c_parentOf hc _), rd_nI h24, dA_at, bind_of (c_isIn G _)]
        have fin : ∀ (M2 : Mm) (A2 : At) (K2 : Kt), CT Sh M2 t A2 K2 (dW W G j) → AgI (TS t) M M2 → (∀ i, i < 24 → i ≠ j → ∀ s, s < 10 → A2 i s = dA A G j i s) → (∀ i, i < 24 → i ≠ j → K2 i = dK K G p top (j + 1) i) → ∃ s', fX4_drop_33 n Sh t (mk G) M2 (nI j) = some (.inl s') ∧ s'.1 = nI (j + 1) ∧ CT Sh s'.2 t (dA A G (j + 1)) (dK K G p top (j + 1)) (dW W G (j + 1)) ∧ AgI (TS t) M s'.2 := by
          intro M2 A2 K2 h2 f2 hA2 hK2
          unfold fX4_drop_33
          obtain ⟨M3, e3, h3, f3⟩ := c_begin (n := n) h2 hn h24 (-1)
          rw [bind_of e3]
          obtain ⟨M4, e4, h4, f4⟩ := c_drop39 (n := n) (G := G) h3 h24
          refine ⟨_, e4, nI_add1 j, h4.cong (fun i hi s hs => ?_) (fun i hi => ?_) (fun i hi => ?_), (f2.tr f3).tr f4⟩
          · by_cases ij : i = j
            · subst ij
              rw [dA_eq]
              unfold remA
              rw [cif_pos g]
              by_cases c : s = 2 ∨ s = 4
              · rw [if_pos ⟨rfl, c⟩, bgA_s]
                have : bgv (-1) s = -1 := by rcases c with c | c <;> subst c <;> rfl
                rw [this]
                by_cases c2 : inM G (-1)
                · rw [cif_pos c2]
                · rw [cif_neg c2]
              · rw [if_neg (fun z => c z.2), bgA_s]
            · rw [dA_ne ij, if_neg (fun z => ij z.1), bgA_i ij, hA2 i hi ij s hs]
          · by_cases ij : i = j
            · subst ij
              rw [sK_s]
              exact cif_pos ⟨by omega, g⟩
            · rw [sK_i ij, hK2 i hi ij]
          · have w : ∀ s, dW W G (j + 1) i s = bgW (dW W G j) j i s := fun s => by
              by_cases ij : i = j
              · subst ij; rw [bgW_s]; exact cif_pos ⟨by omega, g⟩
              · rw [bgW_i ij]
                unfold dW
                by_cases c : i < j ∧ G i
                · rw [cif_pos c, cif_pos ⟨by omega, c.2⟩]
                · rw [cif_neg c, cif_neg (fun z => c ⟨by omega, z.2⟩)]
            exact ⟨w 0, w 1⟩
        by_cases hjt : j = top
        · subst hjt
          rw [e, bI_congr (inM_nI hp.1), i0n hGp]
          have ep : dA A G j p 0 = A p 0 := by
            unfold dA remA
            rw [cif_neg hGp, cif_neg (fun z => by rcases z.1 with z | z <;> exact absurd z (by decide))]
            exact ite_self _
          have kp : dK K G p j j p = K p := by
            unfold dK
            rw [cif_neg (fun z => hGp z.2), if_neg (by omega)]
          obtain ⟨M2, e2, h2, f2⟩ := c_detach (n := n) hc hn h24 (by rw [dA_at]; exact e) (show live (dA A G j) p from ⟨hp.1, by rw [ep]; exact hp.2⟩) (by rw [kp]; exact hk) (by rw [kp]; exact hd) (by rw [kp]; exact hb)
          rw [bind_of e2]
          obtain ⟨s', x1, x2, x3, x4⟩ := fin M2 _ _ h2 (hf.tr f2) (fun i hi ij s hs => sA_i ij) (fun i hi ij => by
            by_cases ip : i = p
            · subst ip
              rw [sK_s, kp]
              unfold dK
              rw [cif_neg (fun z => hGp z.2), if_pos ⟨rfl, by omega⟩]
            · rw [sK_i ip]
              unfold dK
              rw [if_neg (fun z => ip z.1), if_neg (fun z => ip z.1)]
              by_cases c : i < j ∧ G i
              · rw [cif_pos c, cif_pos ⟨by omega, c.2⟩]
              · rw [cif_neg c, cif_neg (fun z => c ⟨by omega, z.2⟩)])
          exact Or.inl ⟨h24, s', x1, x2, x3, x4⟩
        · obtain ⟨q, hq, eq, gq⟩ := hG j h24 g hjt
          rw [eq, bI_congr (inM_nI hq), i0 gq]
          obtain ⟨s', x1, x2, x3, x4⟩ := fin M1 _ _ hc hf (fun i hi ij s hs => rfl) (fun i hi ij => by
            unfold dK
            by_cases c : i < j ∧ G i
            · rw [cif_pos c, cif_pos ⟨by omega, c.2⟩]
            · rw [cif_neg c, cif_neg (fun z => c ⟨by omega, z.2⟩)]
              by_cases c2 : i = p ∧ top < j
              · rw [if_pos c2, if_pos ⟨c2.1, by omega⟩]
              · rw [if_neg c2, if_neg (fun z => c2 ⟨z.1, by omega⟩)])
          exact Or.inl ⟨h24, s', x1, x2, x3, x4⟩
      · rw [i0n g]
        have hjt : j ≠ top := fun z => g (by rw [z]; exact hGt)
        obtain ⟨M4, e4, h4, f4⟩ := c_drop39 (n := n) (G := G) hc h24
        refine Or.inl ⟨h24, _, e4, nI_add1 j, h4.cong (fun i hi s hs => ?_) (fun i hi => ?_) (fun i hi => ?_), hf.tr f4⟩
        · by_cases ij : i = j
          · subst ij
            rw [dA_eq]
            unfold remA
            rw [cif_neg g]
            by_cases c : s = 2 ∨ s = 4
            · rw [if_pos ⟨rfl, c⟩, dA_at]
              by_cases c2 : inM G (A i s)
              · rw [cif_pos ⟨c, c2⟩, cif_pos c2]
              · rw [cif_neg (fun z => c2 z.2), cif_neg c2]
            · rw [if_neg (fun z => c z.2), cif_neg (fun z => c z.1), dA_at]
          · rw [dA_ne ij, if_neg (fun z => ij z.1)]
        · unfold dK
          by_cases c : i < j ∧ G i
          · rw [cif_pos c, cif_pos ⟨by omega, c.2⟩]
          · rw [cif_neg c, cif_neg (fun z => c ⟨by
              rcases Nat.lt_or_eq_of_le (Nat.le_of_lt_succ z.1) with y | y
              · exact y
              · exact absurd z.2 (by rw [y]; exact g), z.2⟩)]
            by_cases c2 : i = p ∧ top < j
            · rw [if_pos c2, if_pos ⟨c2.1, by omega⟩]
            · rw [if_neg c2, if_neg (fun z => c2 ⟨z.1, by omega⟩)]
        · have w : ∀ s, dW W G (j + 1) i s = dW W G j i s := fun s => by
            unfold dW
            by_cases c : i < j ∧ G i
            · rw [cif_pos c, cif_pos ⟨by omega, c.2⟩]
            · rw [cif_neg c, cif_neg (fun z => c ⟨by
                rcases Nat.lt_or_eq_of_le (Nat.le_of_lt_succ z.1) with y | y
                · exact y
                · exact absurd z.2 (by rw [y]; exact g), z.2⟩)]
          exact ⟨w 0, w 1⟩
    · have j24 : j = 24 := by omega
      subst j24
      rw [if_neg (by decide)]
      refine Or.inr ⟨M1, rfl, hc.cong (fun i hi s hs => (if_pos hi).symm) (fun i hi => ?_) (fun i hi => ?_), hf⟩
      · unfold remK dK
        by_cases g : G i
        · rw [cif_pos g, cif_pos ⟨hi, g⟩]
        · rw [cif_neg g, cif_neg (fun z => g z.2)]
          by_cases ip : i = p
          · rw [if_pos ip, if_pos ⟨ip, htop⟩]
          · rw [if_neg ip, if_neg (fun z => ip z.1)]
      · have w : ∀ s, remW W G i s = dW W G 24 i s := fun s => by
          unfold remW dW
          by_cases g : G i
          · rw [cif_pos g, cif_pos ⟨hi, g⟩]
          · rw [cif_neg g, cif_neg (fun z => g z.2)]
        exact ⟨w 0, w 1⟩) hn (s := (0, M)) ⟨rfl, h.cong (fun i hi s hs => if_neg (by omega)) (fun i hi => by
          unfold dK
          rw [cif_neg (by omega), if_neg (by omega)]) (fun i hi => ⟨cif_neg (by omega), cif_neg (by omega)⟩), AgI.rf⟩
  exact ⟨M1, e1, r1, f1⟩
variable {Q : List QI} {sp : List Int32} {fo rd la : Int32}
/-- the tree of a scene is another one -/
theorem CS.tree (h : CS Sh M σ A K W Q sp fo rd la) (ha : AgI (fun a => σ + 1 ≤ a ∧ a < σ + 110) M M') (ht : CT Sh M' (σ + 1) A' K' W') : CS Sh M' σ A' K' W' Q sp fo rd (M'.1 (σ + 1) 9) := by
  obtain ⟨h1, h2, h3, h4, h5, h6, h7⟩ := h
  exact ⟨by rw [ha.1]; exact h1, ht, rfl, h4.Ag ha.toAg (fun a x y => by omega), h5.Ag ha.toAg (by omega) (by omega), by rw [ha.2 _ (by omega)]; exact h6, by rw [ha.2 _ (by omega)]; exact h7⟩
theorem CS.treeS (h : CS Sh M σ A K W Q sp fo rd la) (ha : AgI (TS (σ + 1)) M M') (ht : CT Sh M' (σ + 1) A' K' W') : CS Sh M' σ A' K' W' Q sp fo rd la := by
  have h' := h.tree (ha.mono (fun a z => by unfold TS at z; omega)) ht
  have e : M'.1 (σ + 1) 9 = la := by rw [ha.2 (σ + 1) (by unfold TS; omega)]; exact h.2.2.1
  rw [e] at h'
  exact h'
/-- a scene -/
def SC (σ : Nat) : Nat → Prop := fun a => σ ≤ a ∧ a < σ + 137
theorem c_forget (h : CS Sh M σ A K W Q sp fo rd la) (hn : 24 < n) (htop : top < 24) (hGt : G top) (e : A top 1 = nI p) (hp : live A p) (hGp : ¬ G p) (hk : top ∈ K p) (hd : (K p).Nodup) (hb : ∀ x ∈ K p, x < 24) (hG : ∀ j, j < 24 → G j → j ≠ top → ∃ q, q < 24 ∧ A j 1 = nI q ∧ G q) : ∃ M', fX3_forget n Sh M σ (mk G) = some M' ∧ CS Sh M' σ (remA A G) (remK K G p top) (remW W G) (qFil (fun x => inM G x.2.1 ∨ inM G x.2.2.1) Q) sp (fgV G fo) (fgV G rd) la ∧ Ag (SC σ) M M' := by
  unfold fX3_forget
  obtain ⟨M1, e1, h1, f1⟩ := c_drop (n := n) h.2.1 hn htop hGt e hp hGp hk hd hb hG
  rw [tF_of h.1.2.1, chk_pos h.2.1.1.1, bind_of e1]
  have c1 := h.treeS f1 h1
  obtain ⟨M2, e2, h2, f2⟩ := q_dropNodes c1.2.2.2.1 hn (mk G) (inM G) (fun M v => c_isIn G v)
  rw [tF_of c1.1.2.2.1, chk_pos c1.2.2.2.1.1.1, bind_of e2]
  have c2 := c1.queue (QF.qs f2) h2
  have a2 : Ag (SC σ) M M2 := (Ag.mono f1.toAg (fun a z => by unfold TS at z; unfold SC; omega)).tr (Ag.mono f2 (fun a z => by unfold SC; omega))
  simp only [tI_of, c2.2.2.2.2.2.1, bind_of (c_isIn G fo)]
  have s32 : ∀ (M3 : Mm) (fo' : Int32), CS Sh M3 σ (remA A G) (remK K G p top) (remW W G) (qFil (fun x => inM G x.2.1 ∨ inM G x.2.2.1) Q) sp fo' rd la → Ag (SC σ) M M3 → ∃ M', fX3_forget_32 n Sh σ (mk G) M3 = some M' ∧ CS Sh M' σ (remA A G) (remK K G p top) (remW W G) (qFil (fun x => inM G x.2.1 ∨ inM G x.2.2.1) Q) sp fo' (fgV G rd) la ∧ Ag (SC σ) M M' := by
    intro M3 fo' c3 a3
    unfold fX3_forget_32
    simp only [tI_of, c3.2.2.2.2.2.2, bind_of (c_isIn G rd)]
    by_cases c : inM G rd
    · rw [i0 c]
      refine ⟨_, rfl, ?_, a3.tr (Ag.uI (by unfold SC; omega))⟩
      rw [show fgV G rd = -1 from cif_pos c]
      exact c3.rdl (-1)
    · rw [i0n c]
      refine ⟨_, rfl, ?_, a3⟩
      rw [show fgV G rd = rd from cif_neg c]
      exact c3
  by_cases c : inM G fo
  · rw [i0 c, show fgV G fo = -1 from cif_pos c]
    exact s32 _ _ (c2.foc (-1)) (a2.tr (Ag.uI (by unfold SC; omega)))
  · rw [i0n c, show fgV G fo = fo from cif_neg c]
    exact s32 _ _ c2 a2
end DROP
