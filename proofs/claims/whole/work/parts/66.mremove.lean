/-! ===== LEVEL 2: the reference: remove ===== -/
theorem sub1 {a b : Nat} (h : b ≤ a) : nI a - nI b = nI (a - b) := nI_subm h
noncomputable def exP (G : Nat → Prop) (k : Nat) (pg : Nat → Int32) : Nat → Int32 := fun i => cif (∃ j, j < k ∧ i = 30 * j ∧ G j) 0 (pg i)
theorem ex_0 {G : Nat → Prop} {pg : Nat → Int32} : exP G 0 pg = pg := by
  funext i
  exact cif_neg (fun ⟨j, h, _⟩ => absurd h (Nat.not_lt_zero j))
theorem ex_id {G : Nat → Prop} {pg : Nat → Int32} {k i : Nat} (h : i % 30 ≠ 0) : exP G k pg i = pg i := cif_neg (fun ⟨j, _, e, _⟩ => h (by omega))
theorem ex_ge {G : Nat → Prop} {pg : Nat → Int32} {k j : Nat} (h : k ≤ j) : exP G k pg (30 * j) = pg (30 * j) := cif_neg (fun ⟨i, _, e, _⟩ => by omega)
theorem ex_at {G : Nat → Prop} {pg : Nat → Int32} {k j : Nat} (h : j < k) : exP G k pg (30 * j) = cif (G j) 0 (pg (30 * j)) := by
  by_cases g : G j
  · rw [cif_pos g]; exact cif_pos ⟨j, h, rfl, g⟩
  · rw [cif_neg g]
    refine cif_neg (fun ⟨i, _, e, z⟩ => g ?_)
    have : i = j := by omega
    subst this
    exact z
theorem ex_step {G : Nat → Prop} {pg : Nat → Int32} {k : Nat} : upd (exP G k pg) (30 * k) (cif (G k) 0 (pg (30 * k))) = exP G (k + 1) pg := by
  funext i
  unfold upd
  by_cases e : i = 30 * k
  · rw [if_pos e, e, ex_at (Nat.lt_succ_self k)]
  · rw [if_neg e]
    unfold exP
    by_cases c : ∃ j, j < k ∧ i = 30 * j ∧ G j
    · obtain ⟨j, h1, h2, h3⟩ := c
      rw [cif_pos ⟨j, h1, h2, h3⟩, cif_pos ⟨j, by omega, h2, h3⟩]
    · rw [cif_neg c, cif_neg]
      rintro ⟨j, h1, h2, h3⟩
      by_cases e2 : j = k
      · subst e2; exact e h2
      · exact c ⟨j, by omega, h2, h3⟩
noncomputable def ggP (G : Nat → Prop) (k : Nat) (f : Nat → Int32) : Nat → Int32 := fun i => if i < k then bI (G i) else f i
theorem gg_0 {G : Nat → Prop} {f : Nat → Int32} : ggP G 0 f = f := by
  funext i
  exact if_neg (Nat.not_lt_zero i)
theorem gg_step {G : Nat → Prop} {f : Nat → Int32} {k : Nat} : upd (ggP G k f) k (bI (G k)) = ggP G (k + 1) f := by
  funext i
  unfold upd ggP
  by_cases e : i = k
  · rw [if_pos e, if_pos (by omega), e]
  · rw [if_neg e]
    by_cases c : i < k
    · rw [if_pos c, if_pos (by omega)]
    · rw [if_neg c, if_neg (by omega)]
theorem bool_nar (P : Prop) : vp_nar .boolean (bI P) = bI P := by
  rcases bI_bit P with e | e <;> rw [e] <;> decide
/-- the gone nodes -/
def GN (M : Mm) (μ : Nat) (G : Nat → Prop) : Prop := ∀ v, v < 24 → M.1 (μ + 5) v = bI (G v)
theorem GN.ps {M M' : Mm} {μ : Nat} {G : Nat → Prop} {S : Nat → Prop} (h : GN M μ G) (p : PS μ S M M') : GN M' μ G := fun v hv => by rw [p.2.1 _ (by omega)]; exact h v hv
noncomputable def deA (A : At) (G : Nat → Prop) : At := fun i s => cif (G i) (bgv (-1) s) (A i s)
section MREMOVE
variable {Sh : Sp} {M M' : Mm} {μ n : Nat} {A A' : At} {K K' : Kt} {W W' : Wt} {G : Nat → Prop} {Q : List QI} {sp : List Int32} {fo rd la : Int32}
theorem MS.tree (h : MS (M.1 (μ + 1)) A K W Q sp fo rd la) (p : PS μ (fun i => i < 720) M M') (hP : MP (M'.1 (μ + 1)) A' K' W') : MS (M'.1 (μ + 1)) A' K' W' Q sp fo rd la := by
  obtain ⟨h1, h2, h3, h4, h5, h6, h7, h8⟩ := h
  have e : ∀ i, 720 ≤ i → M'.1 (μ + 1) i = M.1 (μ + 1) i := fun i hi => p.2.2 i (by omega)
  exact ⟨hP, h2.ps p (fun i hi => by unfold QP at hi; omega), by rw [e _ (by omega)]; exact h3, h4, fun j hj => by rw [e _ (by omega)]; exact h5 j hj, by rw [e _ (by omega)]; exact h6, by rw [e _ (by omega)]; exact h7, by rw [e _ (by omega)]; exact h8⟩
theorem m_gone {ρ : Type} (hL : ML Sh M.2.1 μ) (hG : GN M μ G) {v : Nat} (hv : v < 24) {X : Int32 → Option ρ} : (tF M μ 8 fun b => aI Sh M b 3 (nI v) X) = X (bI (G v)) := by
  rw [tF_of hL.2.1.2.2.2.2.1, aI_nI hL.2.2.2.2.2.2.1 hv (by decide), hG v hv]
theorem m_goneA {ρ : Type} (hL : ML Sh M.2.1 μ) (hG : GN M μ G) {v : Nat} (hv : v < 24) {X : Int32 → Option ρ} : aI Sh M (μ + 5) 3 (nI v) X = X (bI (G v)) := by
  rw [aI_nI hL.2.2.2.2.2.2.1 hv (by decide), hG v hv]
theorem de_live (i : Nat) : live (deA A G) i ↔ live A i ∧ ¬ G i := by
  unfold live deA
  by_cases g : G i
  · rw [cif_pos g]
    exact ⟨fun z => absurd rfl z.2, fun z => absurd g z.2⟩
  · rw [cif_neg g]
    exact ⟨fun z => ⟨z, g⟩, fun z => z.1⟩
/-- the loop over the nodes in forget -/
noncomputable def fA (A : At) (G : Nat → Prop) (j : Nat) : At := fun i s => if i < j then remA A G i s else deA A G i s
theorem fA_live (j i : Nat) : live (fA A G j) i ↔ live A i ∧ ¬ G i := by
  by_cases c : i < j
  · have e : fA A G j i 0 = remA A G i 0 := if_pos c
    exact (live.cong (A' := fA A G j) (A := remA A G) e).trans (rem_live i)
  · have e : fA A G j i 0 = deA A G i 0 := if_neg c
    exact (live.cong (A' := fA A G j) (A := deA A G) e).trans (de_live i)
theorem fA_ne {j i s : Nat} (h : i ≠ j) : fA A G (j + 1) i s = fA A G j i s := by
  unfold fA
  by_cases c : i < j
  · rw [if_pos c, if_pos (by omega)]
  · rw [if_neg c, if_neg (by omega)]
theorem fA_at {j s : Nat} (g : ¬ G j) : fA A G j j s = A j s := by
  unfold fA deA
  rw [if_neg (Nat.lt_irrefl j), cif_neg g]
theorem fA_at' {j s : Nat} (g : ¬ G j) : fA A G 0 j s = A j s := by
  unfold fA deA
  rw [if_neg (Nat.not_lt_zero j), cif_neg g]
theorem fA_eq {j s : Nat} : fA A G (j + 1) j s = remA A G j s := if_pos (Nat.lt_succ_self j)
theorem fA_1 {j i : Nat} : fA A G j i 1 = cif (G i) (-1) (A i 1) := by
  unfold fA remA deA
  by_cases g : G i
  · rw [cif_pos g, cif_pos g, cif_pos g]; exact ite_self _
  · rw [cif_neg g, cif_neg g, cif_neg g, cif_neg (fun z => by rcases z.1 with z | z <;> exact absurd z (by decide))]; exact ite_self _
theorem fA_rank {j i : Nat} {K' : Kt} : rank (fA A G (j + 1)) K' i = rank (fA A G j) K' i := rank_cong (by rw [fA_1, fA_1])
theorem m_forget2 (hL : ML Sh M.2.1 μ) (hG : GN M μ G) (hP : MP (M.1 (μ + 1)) (fA A G 0) K' W') (hw : WL (fA A G 0) W') (ho : ∀ i, live A i → ¬ G i → orN A (A i 2) ∧ orN A (A i 4)) (hn : 24 < n) {X : Mm → Option Mm} : ∃ M', iter n (fun s : Int32 × Mm => if s.1 < 24 then
    (fX7_of n Sh s.2 μ s.1 0).bind fun r41 => if r41 = 1 then (fX7_of n Sh s.2 μ s.1 4).bind fun r42 => if r42 = (-1) then fX7_forget_49 n Sh μ s.2 s.1 else tF s.2 μ 8 fun b43 => (fX7_of n Sh s.2 μ s.1 4).bind fun r44 => aI Sh s.2 b43 3 r44 fun x45 => if x45 = 0 then fX7_forget_49 n Sh μ s.2 s.1 else (fX7_put n Sh s.2 μ s.1 4 (-1)).bind fun r46 => fX7_forget_49 n Sh μ r46 s.1 else fX7_forget_49 n Sh μ s.2 s.1
    else (X s.2).map Sum.inr) (0, M) = X M' ∧ MP (M'.1 (μ + 1)) (fA A G 24) K' W' ∧ PS μ (fun i => i < 720) M M' := by
  have wl : ∀ j, WL (fA A G j) W' := fun j i hi => hw i ((fA_live 0 i).mpr ((fA_live j i).mp hi))
  have key : ∀ (m j k : Nat) (M : Mm), j + m = 24 → m < k → ML Sh M.2.1 μ → GN M μ G → MP (M.1 (μ + 1)) (fA A G j) K' W' → ∃ M', iter k (fun s : Int32 × Mm => if s.1 < 24 then
    (fX7_of n Sh s.2 μ s.1 0).bind fun r41 => if r41 = 1 then (fX7_of n Sh s.2 μ s.1 4).bind fun r42 => if r42 = (-1) then fX7_forget_49 n Sh μ s.2 s.1 else tF s.2 μ 8 fun b43 => (fX7_of n Sh s.2 μ s.1 4).bind fun r44 => aI Sh s.2 b43 3 r44 fun x45 => if x45 = 0 then fX7_forget_49 n Sh μ s.2 s.1 else (fX7_put n Sh s.2 μ s.1 4 (-1)).bind fun r46 => fX7_forget_49 n Sh μ r46 s.1 else fX7_forget_49 n Sh μ s.2 s.1
    else (X s.2).map Sum.inr) (nI j, M) = X M' ∧ MP (M'.1 (μ + 1)) (fA A G 24) K' W' ∧ PS μ (fun i => i < 720) M M' := by
    intro m
    induction m with
    | zero =>
      intro j k M hj hk hL hG hP
      have : j = 24 := by omega
      subst this
      refine ⟨M, ?_, hP, PS.rf⟩
      cases hx : X M with
      | none =>
        obtain ⟨k', rfl⟩ : ∃ q, k = q + 1 := ⟨k - 1, by omega⟩
        unfold iter
        dsimp only
        rw [if_neg (show ¬ nI 24 < 24 by decide), hx]
        rfl
      | some r =>
        refine iter_end' hk ?_
        dsimp only
        rw [if_neg (show ¬ nI 24 < 24 by decide), hx]
        rfl
    | succ m ih =>
      intro j k M hj hk hL hG hP
      have hj24 : j < 24 := by omega
      -- one step
      have step : ∃ M', (if nI j < 24 then (fX7_of n Sh M μ (nI j) 0).bind fun r41 => if r41 = 1 then (fX7_of n Sh M μ (nI j) 4).bind fun r42 => if r42 = (-1) then fX7_forget_49 n Sh μ M (nI j) else tF M μ 8 fun b43 => (fX7_of n Sh M μ (nI j) 4).bind fun r44 => aI Sh M b43 3 r44 fun x45 => if x45 = 0 then fX7_forget_49 n Sh μ M (nI j) else (fX7_put n Sh M μ (nI j) 4 (-1)).bind fun r46 => fX7_forget_49 n Sh μ r46 (nI j) else fX7_forget_49 n Sh μ M (nI j) else (X M).map Sum.inr) = some (.inl (nI j + 1, M')) ∧ MP (M'.1 (μ + 1)) (fA A G (j + 1)) K' W' ∧ PS μ (fun i => i < 720) M M' := by
        rw [if_pos (lt24 hj24), bind_of (mo0 hL hP hj24)]
        by_cases hl : live (fA A G j) j
        · rw [i1 hl, bind_of (mo4 hL hP hl)]
          obtain ⟨hla, hg⟩ := (fA_live j j).mp hl
          obtain ⟨o2, o4⟩ := ho j hla hg
          rw [fA_at hg]
          -- the second field
          have s49 : ∀ (M1 : Mm) (A1 : At), ML Sh M1.2.1 μ → GN M1 μ G → MP (M1.1 (μ + 1)) A1 K' W' → WL A1 W' → live A1 j → (∀ s, s ≠ 2 → A1 j s = A j s) → A1 j 2 = fgV G (A j 2) → (∀ i, i ≠ j → ∀ s, A1 i s = fA A G j i s) → PS μ (fun i => i < 720) M M1 → ∃ M', fX7_forget_49 n Sh μ M1 (nI j) = some (.inl (nI j + 1, M')) ∧ MP (M'.1 (μ + 1)) (fA A G (j + 1)) K' W' ∧ PS μ (fun i => i < 720) M M' := by
            intro M1 A1 hL1 hG1 hP1 hw1 hl1 e1 e2 e3 p1
            have fin : ∀ (pg : Nat → Int32) (A2 : At), MP pg A2 K' W' → WL A2 W' → (∀ i, live A2 i ↔ live A1 i) → (∀ s, s ≠ 2 → s ≠ 4 → A2 j s = A j s) → A2 j 2 = fgV G (A j 2) → (A j 3 ≠ 0 → A2 j 4 = fgV G (A j 4)) → (∀ i, i ≠ j → ∀ s, A2 i s = fA A G j i s) → MP pg (fA A G (j + 1)) K' W' := by
              intro pg A2 h2 w2 l2 f1 f2 f4 f3
              refine h2.cong w2 (fun _ _ => rfl) (fun i hi => ?_) (fun i hi => ?_)
              · rw [fA_live, l2]
                by_cases ij : i = j
                · subst ij; exact ⟨fun _ => hl1, fun _ => ⟨hla, hg⟩⟩
                · rw [live.cong (e3 i ij 0), fA_live]
              · by_cases ij : i = j
                · subst ij
                  refine ⟨fun s _ h4 => ?_, fun h3 => ?_, rank_cong ?_, rfl, rfl⟩
                  · rw [fA_eq]
                    by_cases s2 : s = 2
                    · subst s2; rw [rem_24 hg (Or.inl rfl), f2]
                    · rw [rem_A hg s2 h4, f1 s s2 h4]
                  · rw [f1 3 (by decide) (by decide)] at h3
                    rw [fA_eq, rem_24 hg (Or.inr rfl), f4 h3]
                  · rw [fA_eq, rem_A hg (by decide) (by decide), f1 1 (by decide) (by decide)]
                · exact ⟨fun s _ _ => by rw [fA_ne ij, f3 i ij s], fun _ => by rw [fA_ne ij, f3 i ij 4], rank_cong (by rw [fA_ne ij, f3 i ij 1]), rfl, rfl⟩
            unfold fX7_forget_49 fX7_forget_93
            rw [bind_of (mo0 hL1 hP1 hj24), i1 hl1, bind_of (mo11 hL1 hP1 hl1), e1 3 (by decide), e1 4 (by decide)]
            by_cases z3 : A j 3 = 0
            · rw [if_pos z3, if_pos rfl]
              exact ⟨M1, rfl, fin _ A1 hP1 hw1 (fun i => Iff.rfl) (fun s h2 _ => e1 s h2) e2 (fun y => absurd z3 y) e3, p1⟩
            · rw [if_neg z3]
              rcases o4 with e4 | ⟨b, hb, e4⟩
              · rw [if_pos e4]
                refine ⟨M1, rfl, fin _ A1 hP1 hw1 (fun i => Iff.rfl) (fun s h2 _ => e1 s h2) e2 (fun _ => ?_) e3, p1⟩
                rw [e1 4 (by decide), e4]
                unfold fgV
                rw [cif_neg inM_neg]
              · have rr : fX7_of n Sh M1 μ (nI j) 11 = some (A j 4) := (mo11 hL1 hP1 hl1).trans (by rw [e1 3 (by decide), e1 4 (by decide), if_neg z3])
                rw [e4, if_neg (nI_ne_neg hb.lt), tF_of hL1.2.1.2.2.2.2.1, bind_of rr, e4, m_goneA hL1 hG1 hb.1]
                by_cases gb : G b
                · rw [i0 gb]
                  have e11 : fX7_put n Sh M1 μ (nI j) 11 (-1) = some (uI M1 (μ + 1) (30 * j + 11) (-1)) := m_put hL1 hj24 (w := 11) (by decide) (-1)
                  rw [bind_of e11]
                  refine ⟨_, rfl, fin _ (sA (sA A1 j 3 (A j 3)) j 4 (-1)) (hP1.p10 hw1 (A j 3) (-1) (fun i _ _ h => uI_row h) (fun _ => ?_) (fun _ => by rw [uI_same, if_neg z3])) (fun i hi => hw1 i ((live.cong (by rw [sA_k (by decide), sA_k (by decide)])).mp hi)) (fun i => live.cong (by rw [sA_k (by decide), sA_k (by decide)])) (fun s h2 h4 => ?_) (by rw [sA_k (by decide), sA_k (by decide)]; exact e2) (fun _ => ?_) (fun i ij s => by rw [sA_i ij, sA_i ij]; exact e3 i ij s), p1.tr (PS.u (by omega))⟩
                  · rw [uI_row (by omega), ((hP1 j hj24).2 hl1).2.2.2.2.2.1, e1 3 (by decide)]
                  · rw [sA_k h4]
                    by_cases s3 : s = 3
                    · subst s3; rw [sA_s]
                    · rw [sA_k s3]; exact e1 s h2
                  · rw [sA_s, e4]
                    unfold fgV
                    rw [cif_pos ((inM_nI hb.1).mpr gb)]
                · rw [i0n gb]
                  refine ⟨M1, rfl, fin _ A1 hP1 hw1 (fun i => Iff.rfl) (fun s h2 _ => e1 s h2) e2 (fun _ => ?_) e3, p1⟩
                  rw [e1 4 (by decide), e4]
                  unfold fgV
                  rw [cif_neg (fun y => gb ((inM_nI hb.1).mp y))]
          rcases o2 with e2 | ⟨b, hb, e2⟩
          · rw [if_pos e2]
            refine s49 M (fA A G j) hL hG hP (wl j) hl (fun s _ => fA_at hg) ?_ (fun _ _ _ => rfl) PS.rf
            rw [fA_at hg, e2]
            unfold fgV
            rw [cif_neg inM_neg]
          · have rr : fX7_of n Sh M μ (nI j) 4 = some (nI b) := (mo4 hL hP hl).trans (by rw [fA_at hg, e2])
            rw [e2, if_neg (nI_ne_neg hb.lt), tF_of hL.2.1.2.2.2.2.1, bind_of rr, m_goneA hL hG hb.1]
            by_cases gb : G b
            · rw [i0 gb]
              have e4 : fX7_put n Sh M μ (nI j) 4 (-1) = some (uI M (μ + 1) (30 * j + 4) (-1)) := m_put hL hj24 (w := 4) (by decide) (-1)
              have pu : PS μ (fun i => i < 720) M (uI M (μ + 1) (30 * j + 4) (-1)) := PS.u (by omega)
              rw [bind_of e4]
              refine s49 _ (sA (fA A G j) j 2 (-1)) hL (hG.ps pu) (hP.p4 (wl j) (-1) (fun i _ h => uI_row h) (fun _ => uI_same)) (fun i hi => wl j i ((live_sA (by decide)).mp hi)) ((live_sA (by decide)).mpr hl) (fun s h2 => by rw [sA_k h2, fA_at hg]) ?_ (fun i ij s => sA_i ij) pu
              rw [sA_s, e2]
              unfold fgV
              rw [cif_pos ((inM_nI hb.1).mpr gb)]
            · rw [i0n gb]
              refine s49 M (fA A G j) hL hG hP (wl j) hl (fun s _ => fA_at hg) ?_ (fun _ _ _ => rfl) PS.rf
              rw [fA_at hg, e2]
              unfold fgV
              rw [cif_neg (fun y => gb ((inM_nI hb.1).mp y))]
        · rw [i1n hl]
          unfold fX7_forget_49 fX7_forget_93
          rw [bind_of (mo0 hL hP hj24), i1n hl]
          refine ⟨M, rfl, hP.cong (wl j) (fun _ _ => rfl) (fun i hi => by rw [fA_live, fA_live]) (fun i hi => ?_), PS.rf⟩
          have ij : i ≠ j := fun z => by subst z; exact hl hi
          exact ⟨fun s _ _ => fA_ne ij, fun _ => fA_ne ij, fA_rank, rfl, rfl⟩
      obtain ⟨M1, e1, r1, p1⟩ := step
      obtain ⟨M2, e2, r2, p2⟩ := ih (j + 1) (k - 1) M1 (by omega) (by omega) (p1.ml hL) (hG.ps p1) r1
      refine ⟨M2, ?_, r2, p1.tr p2⟩
      rw [iter_go' (s' := (nI (j + 1), M1)) (by omega)]
      · exact e2
      · dsimp only
        rw [e1, nI_add1]
  exact key 24 0 n M (by omega) hn hL hG hP
theorem m_forget (hL : ML Sh M.2.1 μ) (hG : GN M μ G) (h : MS (M.1 (μ + 1)) (fA A G 0) K' W' Q sp fo rd la) (hw : WL (fA A G 0) W') (ho : ∀ i, live A i → ¬ G i → orN A (A i 2) ∧ orN A (A i 4)) (hQ : QOK A Q) (hfo : orN A fo) (hrd : orN A rd) (hn : 20000 < n) : ∃ M', fX7_forget n Sh M μ = some M' ∧ MS (M'.1 (μ + 1)) (remA A G) K' W' (qFil (fun x => inM G x.2.1 ∨ inM G x.2.2.1) Q) sp (fgV G fo) (fgV G rd) la ∧ MC μ M M' := by
  obtain ⟨M1, e1, r1, p1⟩ := m_forget2 (n := n) (X := fun M => fX7_forget_99 n Sh μ M) hL hG h.1 hw ho (by omega)
  have hu : fX7_forget n Sh M μ = fX7_forget_99 n Sh μ M1 := e1
  rw [hu]
  have hL1 := p1.ml hL
  have hG1 := hG.ps p1
  have hw24 : WL (fA A G 24) W' := fun i hi => hw i ((fA_live 0 i).mpr ((fA_live 24 i).mp hi))
  have hP1 : MP (M1.1 (μ + 1)) (remA A G) K' W' := r1.cong hw24 (fun _ _ => rfl) (fun j hj => by rw [fA_live, rem_live]) (fun j hj => by
    have e : ∀ s, remA A G j s = fA A G 24 j s := fun s => (if_pos hj.1).symm
    exact ⟨fun s _ _ => e s, fun _ => e 4, rank_cong (e 1), rfl, rfl⟩)
  have h1 := h.tree p1 hP1
  have hwr : WA (remA A G) W' → True := fun _ => trivial
  clear hwr
  -- the queue
  have s206 : ∀ (M2 : Mm) (fo' rd' : Int32), ML Sh M2.2.1 μ → GN M2 μ G → MS (M2.1 (μ + 1)) (remA A G) K' W' Q sp fo' rd' la → MC μ M M2 → ∃ M', (fX7_forget_206 n Sh μ M2 (nI Q.length - 1)) = some M' ∧ MS (M'.1 (μ + 1)) (remA A G) K' W' (qFil (fun x => inM G x.2.1 ∨ inM G x.2.2.1) Q) sp fo' rd' la ∧ MC μ M M' := by
    intro M2 fo' rd' hL2 hG2 h2 c2
    unfold fX7_forget_206
    obtain ⟨M3, e3, ⟨r3, hL3, -⟩, p3⟩ := q_down (R := fun M Q' => MQu (M.1 (μ + 1)) Q' ∧ ML Sh M.2.1 μ ∧ GN M μ G ∧ QOK A Q') (Fr := PS μ QP) (f := fun s : Int32 × Mm => fX7_forget_206b n Sh μ s.2 s.1) (g := fun M => some M) (fun x => inM G x.2.1 ∨ inM G x.2.2.1) (fun M => PS.rf) (fun a b => PS.tr a b) (fun M => rfl) (fun M Q k x hR hl hx => by
      obtain ⟨hR, hL, hG, hok⟩ := hR
      have hk := (List.getElem?_eq_some_iff.mp hx).1
      obtain ⟨-, ⟨b, hb, eb⟩, o2⟩ := hok x (List.mem_of_getElem? hx)
      obtain ⟨g1, g2, g3, -⟩ := hR.2.2 k x hx
      have s1 : ∀ {ρ : Type} {X : Int32 → Option ρ}, (tF M μ 0 fun b => aI Sh M b 0 (nI (721 + 244 * k) + 1) X) = X x.2.1 := fun {ρ X} => by
        rw [nI_add1, m_at hL (by omega), g2]
      have s2 : ∀ {ρ : Type} {X : Int32 → Option ρ}, (tF M μ 0 fun b => aI Sh M b 0 (nI (721 + 244 * k) + 2) X) = X x.2.2.1 := fun {ρ X} => by
        rw [show nI (721 + 244 * k) + 2 = nI (721 + 244 * k + 2) from nI_addm _ 2, m_at hL (by omega), g3]
      have dr : ∃ M', fX7_forget_259 n Sh μ M (nI k) = some (Sum.inl (nI k + (-1), M')) ∧ (MQu (M'.1 (μ + 1)) (Q.eraseIdx k) ∧ ML Sh M'.2.1 μ ∧ GN M' μ G ∧ QOK A (Q.eraseIdx k)) ∧ PS μ QP M M' := by
        obtain ⟨M', e, r, p⟩ := m_drop hL hR hn hk
        unfold fX7_forget_259 fX7_forget_264
        rw [bind_of e]
        exact ⟨M', rfl, ⟨r, p.ml hL, hG.ps p, hok.sub (fun y hy => List.mem_of_mem_eraseIdx hy)⟩, p⟩
      unfold fX7_forget_206b
      dsimp only
      rw [if_neg (nI_pos (by omega))]
      simp only [m_st, bindS]
      rw [tF_of hL.2.1.2.2.2.2.1, s1, eb, m_goneA hL hG hb.1]
      by_cases gb : G b
      · rw [i0 gb]
        have hp : inM G x.2.1 ∨ inM G x.2.2.1 := Or.inl (by rw [eb]; exact (inM_nI hb.1).mpr gb)
        rw [eb] at hp
        exact ⟨fun _ => dr, fun z => absurd hp z⟩
      · rw [i0n gb, s2]
        have nb : ¬ inM G (nI b) := fun z => gb ((inM_nI hb.1).mp z)
        unfold fX7_forget_264
        rcases o2 with e2 | ⟨c, hc, e2⟩
        · rw [if_pos e2, e2]
          exact ⟨fun z => z.elim (fun y => absurd y nb) (fun y => absurd y inM_neg), fun _ => rfl⟩
        · rw [e2, if_neg (nI_ne_neg hc.lt), tF_of hL.2.1.2.2.2.2.1, s2, e2, m_goneA hL hG hc.1]
          by_cases gc : G c
          · rw [i0 gc]
            exact ⟨fun _ => dr, fun z => absurd (Or.inr ((inM_nI hc.1).mpr gc)) z⟩
          · rw [i0n gc]
            exact ⟨fun z => z.elim (fun y => absurd y nb) (fun y => absurd ((inM_nI hc.1).mp y) gc), fun _ => rfl⟩) (by omega) ⟨h2.2.1, hL2, hG2, hQ⟩ h2.2.1.2.1 (n := n)
    rw [e3]
    obtain ⟨q1, q2, q3, q4, q5, q6, q7, q8⟩ := h2
    have e : ∀ i, 3161 ≤ i → M3.1 (μ + 1) i = M2.1 (μ + 1) i := fun i hi => p3.2.2 i (by unfold QP; omega)
    have hwr : WL (remA A G) W' := fun i hi => hw i ((fA_live 0 i).mpr ((rem_live i).mp hi))
    exact ⟨M3, rfl, ⟨q1.cong hwr (fun i hi => p3.2.2 i (by unfold QP; omega)) (fun j _ => Iff.rfl) (fun j _ => ⟨fun _ _ _ => rfl, fun _ => rfl, rfl, rfl, rfl⟩), r3, by rw [e _ (by omega)]; exact q3, q4, fun j hj => by rw [e _ (by omega)]; exact q5 j hj, by rw [e _ (by omega)]; exact q6, by rw [e _ (by omega)]; exact q7, by rw [e _ (by omega)]; exact q8⟩, c2.tr p3.mc⟩
  have hwr : WL (remA A G) W' := fun i hi => hw i ((fA_live 0 i).mpr ((rem_live i).mp hi))
  have upage : ∀ (M2 : Mm) (k : Nat) (v : Int32), 3402 ≤ k → k < 3404 → ∀ fo' rd', MS (M2.1 (μ + 1)) (remA A G) K' W' Q sp fo' rd' la → MS ((uI M2 (μ + 1) k v).1 (μ + 1)) (remA A G) K' W' Q sp (if k = 3402 then v else fo') (if k = 3403 then v else rd') la := by
    intro M2 k v hk1 hk2 fo' rd' h2
    obtain ⟨q1, q2, q3, q4, q5, q6, q7, q8⟩ := h2
    have p : PS μ (fun i => i = k) M2 (uI M2 (μ + 1) k v) := PS.u rfl
    refine ⟨q1.cong hwr (fun i hi => p.2.2 i (by omega)) (fun j _ => Iff.rfl) (fun j _ => ⟨fun _ _ _ => rfl, fun _ => rfl, rfl, rfl, rfl⟩), q2.ps p (fun i hi => by unfold QP at hi; omega), by rw [uI_row (by omega)]; exact q3, q4, fun j hj => by rw [uI_row (by omega)]; exact q5 j hj, ?_, ?_, by rw [uI_row (by omega)]; exact q8⟩
    · by_cases c : k = 3402
      · subst c; rw [if_pos rfl, uI_same]
      · rw [if_neg c, uI_row (by omega)]; exact q6
    · by_cases c : k = 3403
      · subst c; rw [if_pos rfl, uI_same]
      · rw [if_neg c, uI_row (by omega)]; exact q7
  have hmc : ∀ (M2 : Mm) (k : Nat) (v : Int32), MC μ M2 (uI M2 (μ + 1) k v) := fun M2 k v => (PS.u (S := fun i => i = k) rfl).mc
  have at2 : ∀ (M2 : Mm) (fo' rd' : Int32), ML Sh M2.2.1 μ → MS (M2.1 (μ + 1)) (remA A G) K' W' Q sp fo' rd' la → (∀ {ρ : Type} {X : Int32 → Option ρ}, aI Sh M2 (μ + 1) 0 3402 X = X fo') ∧ (∀ {ρ : Type} {X : Int32 → Option ρ}, aI Sh M2 (μ + 1) 0 3403 X = X rd') ∧ (∀ {ρ : Type} {X : Int32 → Option ρ}, aI Sh M2 (μ + 1) 0 720 X = X (nI Q.length)) := by
    intro M2 fo' rd' hL2 h2
    refine ⟨fun {ρ X} => ?_, fun {ρ X} => ?_, fun {ρ X} => ?_⟩
    · rw [show (3402 : Int32) = nI 3402 from rfl, aI_nI hL2.2.2.1 (by decide) (by decide), h2.2.2.2.2.2.1]
    · rw [show (3403 : Int32) = nI 3403 from rfl, aI_nI hL2.2.2.1 (by decide) (by decide), h2.2.2.2.2.2.2.1]
    · rw [m_a720 hL2, h2.2.1.1]
  have s194 : ∀ (M2 : Mm) (fo' : Int32) (v : Int32), v = fgV G rd → ML Sh M2.2.1 μ → GN M2 μ G → MS (M2.1 (μ + 1)) (remA A G) K' W' Q sp fo' rd la → MC μ M M2 → ∃ M', fX7_forget_194 n Sh μ M2 (μ + 1) 3403 v = some M' ∧ MS (M'.1 (μ + 1)) (remA A G) K' W' (qFil (fun x => inM G x.2.1 ∨ inM G x.2.2.1) Q) sp fo' (fgV G rd) la ∧ MC μ M M' := by
    intro M2 fo' v hv hL2 hG2 h2 c2
    unfold fX7_forget_194
    rw [show (3403 : Int32) = nI 3403 from rfl, sI_nI hL2.2.2.1 (by decide) (by decide)]
    have h3 := upage M2 3403 v (by decide) (by decide) fo' rd h2
    rw [if_neg (by decide), if_pos rfl, hv] at h3
    have hL3 : ML Sh (uI M2 (μ + 1) 3403 (fgV G rd)).2.1 μ := hL2
    rw [hv, tF_of hL3.2.1.1, (at2 _ _ _ hL3 h3).2.2]
    exact s206 _ _ _ hL3 (hG2.ps (PS.u (S := fun i => i = 3403) rfl)) h3 (c2.tr (hmc _ _ _))
  have s186 : ∀ (M2 : Mm) (fo' : Int32), ML Sh M2.2.1 μ → GN M2 μ G → MS (M2.1 (μ + 1)) (remA A G) K' W' Q sp fo' rd la → MC μ M M2 → ∃ M', (tF M2 μ 0 fun b20 => aI Sh M2 b20 0 3403 fun x21 => if x21 = (-1) then fX7_forget_186 n Sh μ M2 (μ + 1) 3403 else tF M2 μ 8 fun b22 => tF M2 μ 0 fun b23 => aI Sh M2 b23 0 3403 fun x24 => aI Sh M2 b22 3 x24 fun x25 => if x25 = 0 then fX7_forget_186 n Sh μ M2 (μ + 1) 3403 else fX7_forget_194 n Sh μ M2 (μ + 1) 3403 (-1)) = some M' ∧ MS (M'.1 (μ + 1)) (remA A G) K' W' (qFil (fun x => inM G x.2.1 ∨ inM G x.2.2.1) Q) sp fo' (fgV G rd) la ∧ MC μ M M' := by
    intro M2 fo' hL2 hG2 h2 c2
    obtain ⟨a1, a2, a3⟩ := at2 _ _ _ hL2 h2
    unfold fX7_forget_186
    rw [tF_of hL2.2.1.1, a2, tF_of hL2.2.1.1, a2]
    rcases hrd with e | ⟨b, hb, e⟩
    · rw [if_pos e]
      exact s194 M2 fo' rd (by unfold fgV; rw [e, cif_neg inM_neg]) hL2 hG2 h2 c2
    · rw [if_neg (by rw [e]; exact nI_ne_neg hb.lt), tF_of hL2.2.1.2.2.2.2.1, tF_of hL2.2.1.1, a2, e, m_goneA hL2 hG2 hb.1]
      by_cases gb : G b
      · rw [i0 gb, ← e]
        exact s194 M2 fo' (-1) (by unfold fgV; rw [e, cif_pos ((inM_nI hb.1).mpr gb)]) hL2 hG2 h2 c2
      · rw [i0n gb, ← e]
        exact s194 M2 fo' rd (by unfold fgV; rw [e, cif_neg (fun y => gb ((inM_nI hb.1).mp y))]) hL2 hG2 h2 c2
  have s146 : ∀ (M2 : Mm) (v : Int32), v = fgV G fo → ML Sh M2.2.1 μ → GN M2 μ G → MS (M2.1 (μ + 1)) (remA A G) K' W' Q sp fo rd la → MC μ M M2 → ∃ M', fX7_forget_146 n Sh μ M2 (μ + 1) 3402 v = some M' ∧ MS (M'.1 (μ + 1)) (remA A G) K' W' (qFil (fun x => inM G x.2.1 ∨ inM G x.2.2.1) Q) sp (fgV G fo) (fgV G rd) la ∧ MC μ M M' := by
    intro M2 v hv hL2 hG2 h2 c2
    unfold fX7_forget_146
    rw [show (3402 : Int32) = nI 3402 from rfl, sI_nI hL2.2.2.1 (by decide) (by decide)]
    have h3 := upage M2 3402 v (by decide) (by decide) fo rd h2
    rw [if_pos rfl, if_neg (by decide), hv] at h3
    have hL3 : ML Sh (uI M2 (μ + 1) 3402 (fgV G fo)).2.1 μ := hL2
    rw [hv, tF_of hL3.2.1.1]
    exact s186 _ _ hL3 (hG2.ps (PS.u (S := fun i => i = 3402) rfl)) h3 (c2.tr (hmc _ _ _))
  obtain ⟨a1, a2, a3⟩ := at2 _ _ _ hL1 h1
  unfold fX7_forget_99 fX7_forget_138
  rw [tF_of hL1.2.1.1, tF_of hL1.2.1.1, a1, tF_of hL1.2.1.1, a1]
  rcases hfo with e | ⟨b, hb, e⟩
  · rw [if_pos e]
    exact s146 M1 fo (by unfold fgV; rw [e, cif_neg inM_neg]) hL1 hG1 h1 p1.mc
  · rw [if_neg (by rw [e]; exact nI_ne_neg hb.lt), tF_of hL1.2.1.2.2.2.2.1, tF_of hL1.2.1.1, a1, e, m_goneA hL1 hG1 hb.1]
    by_cases gb : G b
    · rw [i0 gb, ← e]
      exact s146 M1 (-1) (by unfold fgV; rw [e, cif_pos ((inM_nI hb.1).mpr gb)]) hL1 hG1 h1 p1.mc
    · rw [i0n gb, ← e]
      exact s146 M1 fo (by unfold fgV; rw [e, cif_neg (fun y => gb ((inM_nI hb.1).mp y))]) hL1 hG1 h1 p1.mc
theorem m_remove42 (hL : ML Sh M.2.1 μ) (h : MS (M.1 (μ + 1)) A K W Q sp fo rd la) (hW : WF A K) (hA : WA A W) (hQ : QOK A Q) (hfo : orN A fo) (hrd : orN A rd) (hn : 20000 < n) {top p : Nat} (ht : live A top) (ht0 : top ≠ 0) (hp : live A p) (e : A top 1 = nI p) : ∃ M', fX7_remove_42 n Sh μ (nI top) M 0 0 = some (nI (cnt (gnP A top) 24), M') ∧ MS (M'.1 (μ + 1)) (remA A (gnP A top)) (remK K (gnP A top) p top) (remW W (gnP A top)) (qFil (fun x => inM (gnP A top) x.2.1 ∨ inM (gnP A top) x.2.2.1) Q) sp (fgV (gnP A top) fo) (fgV (gnP A top) rd) la ∧ MC μ M M' := by
  obtain ⟨gt, gp⟩ := gn_top hW ht hp e
  have hgl : ∀ j, gnP A top j → live A j := fun j z => z.1
  have hgp : ∀ j i, live A j → live A i → A j 1 = nI i → (gnP A top j ↔ j = top ∨ gnP A top i) := fun j i h1 h2 h3 => gn_par hW h1 h2 h3
  have hiff : ∀ j, live A j → (gnP A top j ↔ (j = top ∨ top ∈ chain A (A j 1))) := fun j hj => ⟨fun z => z.2, fun z => ⟨hj, z⟩⟩
  generalize gnP A top = G at *
  unfold fX7_remove_42
  -- who goes
  let X : Nat → Mm := fun k => wI M (μ + 5) (ggP G k (M.1 (μ + 5)))
  have hX1 : ∀ k, (X k).1 (μ + 1) = M.1 (μ + 1) := fun k => wI_off (by omega)
  have hXP : ∀ k, MP ((X k).1 (μ + 1)) A K W := fun k => by rw [hX1]; exact h.1
  have hXL : ∀ k, ML Sh (X k).2.1 μ := fun k => hL
  have one : ∀ (k : Nat), k < 24 → ∀ v : Int32, v = bI (G k) → fX7_remove_82 n Sh μ (nI top) (X k) (nI (cnt G k)) (nI k) (μ + 5) (nI k) v = some (.inl (nI (cnt G (k + 1)), nI (k + 1), X (k + 1))) := by
    intro k hk v hv
    unfold fX7_remove_82 fX7_remove_98
    rw [sZ_nI (hXL k).2.2.2.2.2.2.1 hk (by decide), hv, bool_nar]
    have e1 : uI (X k) (μ + 5) k (bI (G k)) = X (k + 1) := by
      show uI (wI M (μ + 5) _) (μ + 5) _ _ = wI M (μ + 5) _
      rw [wI_upd, gg_step]
    rw [e1, tF_of (hXL (k + 1)).2.1.2.2.2.2.1, aI_nI (hXL (k + 1)).2.2.2.2.2.2.1 hk (by decide)]
    have e2 : (X (k + 1)).1 (μ + 5) k = bI (G k) := by
      rw [show (X (k + 1)).1 (μ + 5) = ggP G (k + 1) (M.1 (μ + 5)) from wI_same]
      exact if_pos (Nat.lt_succ_self k)
    rw [e2]
    have e3 : cnt G (k + 1) = cnt G k + cN (G k) := rfl
    by_cases g : G k
    · rw [i0 g, e3, cN_pos g, nI_add1, nI_add1]
    · rw [i0n g, e3, cN_neg g, nI_add1, Int32.add_zero]
      rfl
  -- afterwards
  have fin : ∃ M', fX7_remove_106 n Sh μ (nI top) (X 24) (nI (cnt G 24)) = some (nI (cnt G 24), M') ∧ MS (M'.1 (μ + 1)) (remA A G) (remK K G p top) (remW W G) (qFil (fun x => inM G x.2.1 ∨ inM G x.2.2.1) Q) sp (fgV G fo) (fgV G rd) la ∧ MC μ M M' := by
    have hX24 : GN (X 24) μ G := fun v hv => by
      rw [show (X 24).1 (μ + 5) = ggP G 24 (M.1 (μ + 5)) from wI_same]
      exact if_pos hv
    have cX : MC μ M (X 24) := ⟨rfl, fun a _ _ _ x4 _ => wI_off x4, fun k _ _ => by rw [show (X 24).1 μ = M.1 μ from wI_off (by omega)]⟩
    have hX24S : MS ((X 24).1 (μ + 1)) A K W Q sp fo rd la := by rw [hX1]; exact h
    generalize X 24 = N at *
    have hLN := cX.ml hL
    unfold fX7_remove_106
    obtain ⟨M1, e1, r1, p1⟩ := m_detach (n := n) hLN hX24S.1 hW hA.wl (by omega) ht hp e
    rw [bind_of e1]
    have hL1 := p1.ml hLN
    have hG1 := hX24.ps p1
    let Y : Nat → Mm := fun k => wI M1 (μ + 1) (exP G k (M1.1 (μ + 1)))
    have hY1 : ∀ k, (Y k).1 (μ + 1) = exP G k (M1.1 (μ + 1)) := fun k => wI_same
    have hYL : ∀ k, ML Sh (Y k).2.1 μ := fun k => hL1
    have hYG : ∀ k, GN (Y k) μ G := fun k v hv => by rw [show (Y k).1 (μ + 5) = M1.1 (μ + 5) from wI_off (by omega)]; exact hG1 v hv
    have pY : ∀ k, k ≤ 24 → PS μ (fun i => i < 720) M1 (Y k) := fun k hk => ⟨rfl, fun b hb => wI_off hb, fun i hi => by rw [hY1]; exact cif_neg (fun ⟨j, h1, h2, _⟩ => by omega)⟩
    have h113 : ∃ M', fX7_remove_150 n Sh μ (nI top) (Y 24) (nI (cnt G 24)) = some (nI (cnt G 24), M') ∧ MS (M'.1 (μ + 1)) (remA A G) (remK K G p top) (remW W G) (qFil (fun x => inM G x.2.1 ∨ inM G x.2.2.1) Q) sp (fgV G fo) (fgV G rd) la ∧ MC μ M M' := by
      have hPY : MP ((Y 24).1 (μ + 1)) (fA A G 0) (remK K G p top) (remW W G) := MP.ofx (fun j hj => by
        have hfl := fA_live (A := A) (G := G) 0 j
        by_cases g : G j
        · refine ⟨?_, fun z => absurd g (hfl.mp z).2⟩
          rw [hY1, ex_at hj, cif_pos g, bI_neg (fun z => (hfl.mp z).2 g)]
        · have jt : j ≠ top := fun z => g (by rw [z]; exact gt)
          have ef : ∀ s, fA A G 0 j s = A j s := fun s => fA_at' g
          refine (r1 j hj).cong 24 (fun z => absurd z jt) ?_ (fun _ i h1 h2 => ?_) ?_ (fun hl => ?_)
          · rw [hY1, ex_at hj, cif_neg g]
          · rw [hY1, ex_id (by omega)]
          · rw [hfl, live_sA (by decide)]
            exact ⟨fun z => z.1, fun z => ⟨z, g⟩⟩
          · have hl := (live_sA (A := A) (j := top) (k := 1) (v := -1) (by decide)).mp hl
            have a1 : ∀ s, sA A top 1 (-1) j s = A j s := fun s => sA_i jt
            refine ⟨fun s _ _ => by rw [ef, a1], fun _ => by rw [ef, a1], fun _ => ?_, ?_, (hA j hl).1, (hA j hl).2.1⟩
            · rcases hW.par hl with z | ⟨u, hu, z⟩
              · rw [rank_root (show fA A G 0 j 1 = -1 from by rw [ef]; exact z), rank_root (show sA A top 1 (-1) j 1 = -1 from by rw [a1]; exact z)]
              · rw [rank_raw hu.lt (show fA A G 0 j 1 = nI u from by rw [ef]; exact z), rank_raw hu.lt (show sA A top 1 (-1) j 1 = nI u from by rw [a1]; exact z)]
                have gu : ¬ G u := fun y => g ((hgp j u hl hu z).mpr (Or.inr y))
                unfold remK sK
                rw [cif_neg gu]
            · unfold remW
              rw [cif_neg g, cif_neg g]
              exact ⟨rfl, rfl⟩)
      have hSY : MS ((Y 24).1 (μ + 1)) (fA A G 0) (remK K G p top) (remW W G) Q sp fo rd la := hX24S.tree (p1.tr (pY 24 (Nat.le_refl _))) hPY
      have hwl : WL (fA A G 0) (remW W G) := fun i hi => by
        obtain ⟨z, g⟩ := (fA_live 0 i).mp hi
        unfold remW
        rw [cif_neg g, cif_neg g]
        exact ⟨(hA i z).1, (hA i z).2.1⟩
      obtain ⟨M9, e9, r9, c9⟩ := m_forget (n := n) (hYL 24) (hYG 24) hSY hwl (fun i hi _ => ⟨(hA i hi).2.2.1, (hA i hi).2.2.2⟩) hQ hfo hrd hn
      unfold fX7_remove_150
      rw [bind_of e9]
      exact ⟨M9, rfl, r9, cX.tr ((p1.tr (pY 24 (Nat.le_refl _))).mc.tr c9)⟩
    obtain ⟨M9, e9, r9, c9⟩ := h113
    unfold fX7_remove_113
    refine ⟨M9, iter_seq (N := 24) (fun k => (nI k, Y k)) (fun k hk => ?_) ?_ (by omega) (by show _ = (nI 0, wI M1 (μ + 1) _); rw [ex_0, wI_self]; rfl), r9, c9⟩
    · have put1 : ∀ v : Int32, v = cif (G k) 0 (M1.1 (μ + 1) (30 * k)) → fX7_remove_141 n Sh μ (nI top) (Y k) (nI (cnt G 24)) (nI k) μ (nI k) 0 v = some (.inl (nI (k + 1), Y (k + 1))) := by
        intro v hv
        unfold fX7_remove_141
        have e1 : fX7_put n Sh (Y k) μ (nI k) 0 v = some (uI (Y k) (μ + 1) (30 * k) v) := m_put (hYL k) hk (w := 0) (by decide) v
        rw [chk_pos hL.1, bind_of e1, nI_add1]
        have e2 : uI (Y k) (μ + 1) (30 * k) v = Y (k + 1) := by
          show uI (wI M1 (μ + 1) _) (μ + 1) _ _ = wI M1 (μ + 1) _
          rw [wI_upd, hv, ex_step]
        rw [e2]
      unfold fX7_remove_113b
      dsimp only
      rw [if_pos (lt24 hk), m_gone (hYL k) (hYG k) hk]
      by_cases g : G k
      · rw [i0 g]
        exact put1 0 (cif_pos g).symm
      · rw [i0n g]
        have e1 : fX7_of n Sh (Y k) μ (nI k) 0 = some (M1.1 (μ + 1) (30 * k)) := (m_of (hYL k) hk (w := 0) (by decide)).trans (by rw [show 30 * k + 0 = 30 * k from rfl, hY1, ex_ge (Nat.le_refl _)])
        rw [bind_of e1]
        exact put1 _ (cif_neg g).symm
    · unfold fX7_remove_113b
      dsimp only
      rw [if_neg (show ¬ nI 24 < 24 by decide), e9]
      rfl
  obtain ⟨M9, e9, r9, c9⟩ := fin
  refine ⟨M9, iter_seq (N := 24) (fun k => (nI (cnt G k), nI k, X k)) (fun k hk => ?_) ?_ (by omega) (by show _ = (nI 0, nI 0, wI M (μ + 5) _); rw [gg_0, wI_self]; rfl), r9, c9⟩
  · unfold fX7_remove_42b fX7_remove_77 fX7_remove_81
    dsimp only
    rw [if_pos (lt24 hk), tF_of (hXL k).2.1.2.2.2.2.1, bind_of (mo0 (hXL k) (hXP k) hk)]
    by_cases hl : live A k
    · rw [i1 hl]
      by_cases kt : k = top
      · rw [if_pos (by rw [kt])]
        exact one k hk 1 (bI_pos ((hiff k hl).mpr (Or.inl kt))).symm
      · rw [if_neg (fun z => kt (nI_inj hl.lt ht.lt z)), bind_of (m_isBelow (hXL k) (hXP k) hW (by omega) hl ht.1)]
        by_cases hb : top ∈ chain A (A k 1)
        · rw [i0 hb]
          exact one k hk 1 (bI_pos ((hiff k hl).mpr (Or.inr hb))).symm
        · rw [i0n hb]
          exact one k hk 0 (bI_neg (fun z => ((hiff k hl).mp z).elim kt hb)).symm
    · rw [i1n hl]
      exact one k hk 0 (bI_neg (fun z => hl (hgl k z))).symm
  · unfold fX7_remove_42b
    dsimp only
    rw [if_neg (show ¬ nI 24 < 24 by decide), e9]
    rfl
end MREMOVE
