/-! ===== LEVEL 2: a cell is read ===== -/
section READS
variable {Sh : Sp} {M M' : Mm} {B σ μ n : Nat} {A : At} {K : Kt} {W : Wt} {Q : List QI} {sp l : List Int32} {fo rd la : Int32}
theorem CS.say {l' : List Int32} (h : CS Sh M σ A K W Q l fo rd la) (f : AgI (fun a => a = σ + 135 ∨ a = σ + 135 + 1) M M') (hw : WR Sh M' (σ + 135) 256 l') : CS Sh M' σ A K W Q l' fo rd la := by
  obtain ⟨q1, q2, q3, q4, q5, q6, q7⟩ := h
  exact ⟨by rw [f.1]; exact q1, q2.ag f (fun a x y => by omega), by rw [f.2 _ (by omega)]; exact q3, q4.Ag f.toAg (fun a x y => by omega), hw, by rw [f.2 _ (by omega)]; exact q6, by rw [f.2 _ (by omega)]; exact q7⟩
theorem c_joinHeader (hx : XL Sh M.2.1 B) (h : CS Sh M (B + 1) A K W Q l fo rd la) (hW : WF A K) (hA : WA A W) (hn : 24 < n) (hrd : orN A rd) {j : Nat} (hc : isCellP A j) (col : Bool) (hle : (jns l (hdrW A K W rd j col)).length ≤ 256) : ∃ M', fX6_joinHeader n Sh M B (nI j) (if col then 1 else 0) = some M' ∧ CS Sh M' (B + 1) A K W Q (jns l (hdrW A K W rd j col)) fo rd la ∧ AgI (fun a => a = B + 1 + 135 ∨ a = B + 1 + 135 + 1) M M' := by
  unfold fX6_joinHeader
  have hg : GR M (B + 141) (B + 1 + 1) := hx.2.2.2.1.2
  have hj : orN A (nI j) := Or.inr ⟨j, hc.1, rfl⟩
  rw [tF_of hx.2.1.2.2.1, chk_pos hx.2.2.2.1.1, bind_of (c_headerOf hg h.2.1 hW hn hj col)]
  unfold hdrW at hle ⊢
  by_cases c1 : headV A K col (nI j) = -1
  · rw [if_pos c1, cif_pos (Or.inl c1)]
    exact ⟨M, rfl, h, AgI.rf⟩
  · rw [if_neg c1, tF_of hx.2.1.2.2.1, tF_of hx.2.1.1, gI_of h.1.1, h.2.2.2.2.2.2, chk_pos hx.2.2.2.1.1, bind_of (c_headerOf hg h.2.1 hW hn hrd col)]
    by_cases c2 : headV A K col (nI j) = headV A K col rd
    · rw [if_pos c2, cif_pos (Or.inr c2)]
      exact ⟨M, rfl, h, AgI.rf⟩
    · rw [cif_neg (fun z => z.elim c1 c2)] at hle ⊢
      rw [if_neg c2, tF_of hx.2.1.1, gF_of h.1.1 h.1.2.1, tF_of hx.2.1.1, gF_of h.1.1 h.1.2.2.2, chk_pos h.2.1.1.1]
      rcases headV_or hW col hc with e | ⟨x, hxl, e⟩
      · exact absurd e c1
      · rw [e] at hle ⊢
        rw [nI_clamp hxl.lt] at hle ⊢
        obtain ⟨M', e', r', f'⟩ := c_joinPart (n := n) hW hA hn (by decide) (show B + 1 + 1 + 109 ≤ B + 1 + 135 ∨ B + 1 + 135 + 2 ≤ B + 1 + 1 by omega) h.2.1 h.2.2.2.2.1 hxl hle
        rw [bind_of e']
        exact ⟨M', rfl, h.say f' r', f'⟩
theorem c_readCell (hx : XL Sh M.2.1 B) (h : CS Sh M (B + 1) A K W Q sp fo rd la) (hW : WF A K) (hA : WA A W) (hn : 24 < n) (hrd : orN A rd) {j : Nat} (hc : isCellP A j) : ∃ M', fX6_readCell n Sh M B (nI j) = some M' ∧ CS Sh M' (B + 1) A K W Q (jns [] (rdW A K W rd j)) fo (nI j) la ∧ AgI (fun a => B + 1 ≤ a ∧ a < B + 138) M M' := by
  have hle := rd_le hW hA hc rd
  have hle0 : (jns [] (hdrW A K W rd j false)).length ≤ (jns [] (rdW A K W rd j)).length := by
    unfold rdW
    rw [jns_app, jns_app]
    exact Nat.le_trans (jns_len _ _) (jns_len _ _)
  have hle1 : (jns (jns [] (hdrW A K W rd j false)) (hdrW A K W rd j true)).length ≤ (jns [] (rdW A K W rd j)).length := by
    unfold rdW
    rw [jns_app, jns_app]
    exact jns_len _ _
  unfold fX6_readCell
  rw [tF_of hx.2.1.1, gF_of h.1.1 h.1.2.2.2, chk_pos h.2.2.2.2.1.1]
  obtain ⟨M1, e1, r1, f1⟩ := w_empty (n := n) h.2.2.2.2.1
  have f1' : AgI (fun a => a = B + 1 + 135 ∨ a = B + 1 + 135 + 1) M M1 := f1.mono (fun a z => Or.inl z)
  have h1 := h.say f1' r1
  have hx1 : XL Sh M1.2.1 B := by rw [f1.1]; exact hx
  rw [bind_of e1]
  obtain ⟨M2, e2, h2, f2⟩ := c_joinHeader (n := n) hx1 h1 hW hA hn hrd hc false (by omega)
  have e2' : fX6_joinHeader n Sh M1 B (nI j) 0 = some M2 := e2
  have hx2 : XL Sh M2.2.1 B := by rw [f2.1]; exact hx1
  obtain ⟨M3, e3, h3, f3⟩ := c_joinHeader (n := n) hx2 h2 hW hA hn hrd hc true (by omega)
  have e3' : fX6_joinHeader n Sh M2 B (nI j) 1 = some M3 := e3
  have hx3 : XL Sh M3.2.1 B := by rw [f3.1]; exact hx2
  rw [bind_of e2', bind_of e3', tF_of hx3.2.1.1, gF_of h3.1.1 h3.1.2.1, tF_of hx3.2.1.1, gF_of h3.1.1 h3.1.2.2.2, chk_pos h3.2.1.1.1]
  have ej : jns (jns (jns [] (hdrW A K W rd j false)) (hdrW A K W rd j true)) (partW A K W j) = jns [] (rdW A K W rd j) := by
    unfold rdW
    rw [jns_app, jns_app]
  obtain ⟨M4, e4, r4, f4⟩ := c_joinPart (n := n) hW hA hn (by decide) (show B + 1 + 1 + 109 ≤ B + 1 + 135 ∨ B + 1 + 135 + 2 ≤ B + 1 + 1 by omega) h3.2.1 h3.2.2.2.2.1 hc.1 (by rw [ej]; omega)
  rw [ej] at r4
  have h4 := h3.say f4 r4
  have hx4 : XL Sh M4.2.1 B := by rw [f4.1]; exact hx3
  rw [bind_of e4, tF_of hx4.2.1.1, pI_of h4.1.1]
  exact ⟨_, rfl, h4.rdl (nI j), (((f1'.tr f2).tr (f3.tr f4)).mono (fun a z => by omega)).tr (AgI.uI (by omega))⟩
theorem m_laysHeader (hL : ML Sh M.2.1 μ) (h : MS (M.1 (μ + 1)) A K W Q sp fo rd la) (hW : WF A K) (hA : WA A W) (h0 : A 0 0 = 0) (hn : 24 < n) (hM : MW M μ l) (hrd : orN A rd) {j : Nat} (hc : isCellP A j) (col : Bool) (hle : (jns l (hdrW A K W rd j col)).length ≤ 260) : ∃ M', fX7_laysHeader n Sh M μ (nI j) (if col then 1 else 0) = some M' ∧ MW M' μ (jns l (hdrW A K W rd j col)) ∧ WS μ M M' := by
  unfold fX7_laysHeader fX7_laysHeader_40
  rw [bind_of (m_headerOf hL h.1 hW h0 hn hc.1 col)]
  have a1 : ∀ {ρ : Type} {X : Int32 → Option ρ}, (tF M μ 0 fun b => aI Sh M b 0 3403 X) = X rd := fun {ρ X} => by
    rw [show (3403 : Int32) = nI 3403 from rfl, m_at hL (by decide), h.2.2.2.2.2.2.1]
  have fin : ∀ t0 : Int32, (t0 = 0 → ¬ (headV A K col (nI j) = headV A K col rd) ∨ headV A K col (nI j) = -1) → (t0 ≠ 0 → headV A K col (nI j) = headV A K col rd) → ∃ M', fX7_laysHeader_41 n Sh μ (nI j) (if col then 1 else 0) M (headV A K col (nI j)) t0 = some M' ∧ MW M' μ (jns l (hdrW A K W rd j col)) ∧ WS μ M M' := by
    intro t0 z0 z1
    unfold fX7_laysHeader_41
    unfold hdrW at hle ⊢
    by_cases c1 : headV A K col (nI j) = -1
    · rw [if_pos c1, cif_pos (Or.inl c1)]
      exact ⟨M, rfl, hM, WS.rf⟩
    · rw [if_neg c1]
      by_cases t : t0 = 0
      · have c2 := (z0 t).resolve_right c1
        rw [cif_neg (fun z => z.elim c1 c2)] at hle ⊢
        rw [if_pos t]
        rcases headV_or hW col hc with e | ⟨x, hxl, e⟩
        · exact absurd e c1
        · rw [e] at hle ⊢
          rw [nI_clamp hxl.lt] at hle ⊢
          obtain ⟨M', e', r', f'⟩ := m_part (n := n) hL h.1 hW hA hn hM hxl hle
          rw [bind_of e']
          exact ⟨M', rfl, r', f'⟩
      · rw [if_neg t, cif_pos (Or.inr (z1 t))]
        exact ⟨M, rfl, hM, WS.rf⟩
  rw [a1, a1]
  rcases hrd with e | ⟨b, hb, e⟩
  · rw [if_pos e]
    refine fin 0 (fun _ => ?_) (fun z => absurd rfl z)
    by_cases c1 : headV A K col (nI j) = -1
    · exact Or.inr c1
    · refine Or.inl (fun z => c1 ?_)
      rw [z, e]
      exact headV_no col (fun ⟨a, e2, ha⟩ => nI_ne_neg ha.1.lt e2.symm)
  · rw [if_neg (by rw [e]; exact nI_ne_neg hb.lt), e, bind_of (m_headerOf hL h.1 hW h0 hn hb col)]
    rw [e] at fin
    by_cases c2 : headV A K col (nI b) = headV A K col (nI j)
    · rw [if_pos c2]
      have f1 := fin 1 (fun z => absurd z (by decide)) (fun _ => c2.symm)
      rw [← e] at f1
      rw [← e]
      exact f1
    · rw [if_neg c2]
      have f1 := fin 0 (fun _ => Or.inl (fun z => c2 z.symm)) (fun z => absurd rfl z)
      rw [← e] at f1
      rw [← e]
      exact f1
theorem m_reads (hL : ML Sh M.2.1 μ) (h : MS (M.1 (μ + 1)) A K W Q sp fo rd la) (hW : WF A K) (hA : WA A W) (h0 : A 0 0 = 0) (hn : 20000 < n) (hrd : orN A rd) {j : Nat} (hc : isCellP A j) : ∃ M', fX7_reads n Sh M μ (nI j) = some (nI (jns [] (rdW A K W rd j)).length, M') ∧ MS (M'.1 (μ + 1)) A K W Q (jns [] (rdW A K W rd j)) fo (nI j) la ∧ MC μ M M' := by
  have hle := rd_le hW hA hc rd
  have hle0 : (jns [] (hdrW A K W rd j false)).length ≤ (jns [] (rdW A K W rd j)).length := by
    unfold rdW
    rw [jns_app, jns_app]
    exact Nat.le_trans (jns_len _ _) (jns_len _ _)
  have hle1 : (jns (jns [] (hdrW A K W rd j false)) (hdrW A K W rd j true)).length ≤ (jns [] (rdW A K W rd j)).length := by
    unfold rdW
    rw [jns_app, jns_app]
    exact jns_len _ _
  unfold fX7_reads
  simp only [qI_of]
  have w0 : WS μ M (uI M μ 7 0) := WS.l
  have m0 : MW (uI M μ 7 0) μ [] := ⟨uI_same, Nat.zero_le _, fun k hk => absurd hk (Nat.not_lt_zero k)⟩
  generalize uI M μ 7 0 = M0 at *
  have g0 := h.ws w0
  have L0 := w0.ml hL
  obtain ⟨M1, e1, r1, w1⟩ := m_laysHeader (n := n) L0 g0 hW hA h0 (by omega) m0 hrd hc false (by omega)
  have e1' : fX7_laysHeader n Sh M0 μ (nI j) 0 = some M1 := e1
  have g1 := g0.ws w1
  have L1 := w1.ml L0
  obtain ⟨M2, e2, r2, w2⟩ := m_laysHeader (n := n) L1 g1 hW hA h0 (by omega) r1 hrd hc true (by omega)
  have e2' : fX7_laysHeader n Sh M1 μ (nI j) 1 = some M2 := e2
  have g2 := g1.ws w2
  have L2 := w2.ml L1
  have ej : jns (jns (jns [] (hdrW A K W rd j false)) (hdrW A K W rd j true)) (partW A K W j) = jns [] (rdW A K W rd j) := by
    unfold rdW
    rw [jns_app, jns_app]
  obtain ⟨M3, e3, r3, w3⟩ := m_part (n := n) L2 g2.1 hW hA (by omega) r2 hc.1 (by rw [ej]; omega)
  rw [ej] at r3
  have g3 := g2.ws w3
  have L3 := w3.ml L2
  rw [bind_of e1', bind_of e2', bind_of e3]
  have c3 : MC μ M M3 := (w0.mc.tr w1.mc).tr (w2.mc.tr w3.mc)
  generalize hWd : jns [] (rdW A K W rd j) = wd at *
  simp only [tI_of, r3.1]
  rw [tF_of L3.2.1.1, show (3161 : Int32) = nI 3161 from rfl, sI_nI L3.2.2.1 (by decide) (by decide)]
  unfold fX7_reads_36
  -- the words go to the page
  let X : Nat → Mm := fun k => wI M3 (μ + 1) (tkP 3162 k wd (upd (M3.1 (μ + 1)) 3161 (nI wd.length)))
  have hX : ∀ k a, a ≠ μ + 1 → (X k).1 a = M3.1 a := fun k a ha => wI_off ha
  have hX1 : ∀ k, (X k).1 (μ + 1) = tkP 3162 k wd (upd (M3.1 (μ + 1)) 3161 (nI wd.length)) := fun k => wI_same
  have hYp : ∀ i, (i < 3161 ∨ 3162 + wd.length ≤ i) → i ≠ 3403 → (uI (X wd.length) (μ + 1) 3403 (nI j)).1 (μ + 1) i = M3.1 (μ + 1) i := fun i hi h3 => by
    rw [uI_row h3, hX1]
    unfold tkP upd
    rw [if_neg (by omega), if_neg (by omega)]
  refine ⟨uI (X wd.length) (μ + 1) 3403 (nI j), iter_seq (N := wd.length) (fun k => (nI k, X k)) (fun k hk => ?_) ?_ (by omega) (by show (nI 0, uI M3 (μ + 1) 3161 (nI wd.length)) = (nI 0, wI M3 (μ + 1) _); rw [tk_0]; rfl), ?_, c3.tr ⟨rfl, fun a _ x2 _ _ _ => by rw [uI_off x2, hX _ _ x2], fun k _ _ => by rw [uI_off (by omega), hX _ _ (by omega)]⟩⟩
  · unfold fX7_reads_36b
    dsimp only
    simp only [tI_of, hX k μ (by omega), r3.1, lt_nI (show k < 2 ^ 31 by omega) (show wd.length < 2 ^ 31 by omega), if_pos hk]
    rw [tF_of (show (X k).2.1 μ 0 = some (μ + 1) from L3.2.1.1), tF_of (show (X k).2.1 μ 6 = some (μ + 4) from L3.2.1.2.2.2.1), aI_nI L3.2.2.2.2.2.1 (by omega) (by decide), hX k (μ + 4) (by omega), r3.2.2 k hk, show (3162 : Int32) + nI k = nI (3162 + k) from nI_addm 3162 k, sI_nI L3.2.2.1 (by omega) (by decide), nI_add1]
    have e5 : uI (X k) (μ + 1) (3162 + k) (wd.getD k 0) = X (k + 1) := by
      show uI (wI M3 (μ + 1) _) (μ + 1) _ _ = wI M3 (μ + 1) _
      rw [wI_upd, tk_step]
    rw [e5]
  · unfold fX7_reads_36b fX7_reads_66
    dsimp only
    simp only [tI_of, hX wd.length μ (by omega), r3.1, lt_nI (show wd.length < 2 ^ 31 by omega) (show wd.length < 2 ^ 31 by omega)]
    rw [if_neg (Nat.lt_irrefl _), tF_of (show (X wd.length).2.1 μ 0 = some (μ + 1) from L3.2.1.1), show (3403 : Int32) = nI 3403 from rfl, sI_nI L3.2.2.1 (by decide) (by decide)]
    rw [show (uI (X wd.length) (μ + 1) 3403 (nI j)).1 μ 7 = nI wd.length from by rw [uI_off (by omega), hX _ _ (by omega)]; exact r3.1]
    rfl
  · obtain ⟨q1, ⟨a1, a2, a3⟩, q3, q4, q5, q6, q7, q8⟩ := g3
    refine ⟨q1.cong hA.wl (fun i hi => hYp i (by omega) (by omega)) (fun j _ => Iff.rfl) (fun j _ => ⟨fun _ _ _ => rfl, fun _ => rfl, rfl, rfl, rfl⟩), ⟨by rw [hYp _ (by omega) (by omega)]; exact a1, a2, fun i x hx => ?_⟩, ?_, hle, fun k hk => ?_, by rw [hYp _ (by omega) (by omega)]; exact q6, uI_same, by rw [hYp _ (by omega) (by omega)]; exact q8⟩
    · have hi := (List.getElem?_eq_some_iff.mp hx).1
      obtain ⟨s1, s2, s3, s4, s5, s6⟩ := a3 i x hx
      exact ⟨by rw [hYp _ (by omega) (by omega)]; exact s1, by rw [hYp _ (by omega) (by omega)]; exact s2, by rw [hYp _ (by omega) (by omega)]; exact s3, by rw [hYp _ (by omega) (by omega)]; exact s4, s5, fun k hk => by rw [hYp _ (by omega) (by omega)]; exact s6 k hk⟩
    · rw [uI_row (by omega), hX1]
      unfold tkP upd
      rw [if_neg (by omega), if_pos rfl]
    · rw [uI_row (by omega), hX1]
      unfold tkP
      rw [if_pos (by omega), Nat.add_sub_cancel_left]
end READS
