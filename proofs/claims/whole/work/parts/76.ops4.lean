/-! ===== LEVEL 2: words, labellers, the focus ===== -/
theorem sA_self {A : At} {j k : Nat} : sA A j k (A j k) = A := by
  funext i s
  unfold sA
  by_cases c : i = j ∧ s = k
  · rw [if_pos c, c.1, c.2]
  · rw [if_neg c]
theorem nI_mod {a b : Nat} (ha : a < 48) (hb : b < 25) (h0 : 0 < b) : nI a - nI a / nI b * nI b = nI (a % b) := by
  have : ∀ a ∈ List.range 48, ∀ b ∈ List.range 25, 0 < b → nI a - nI a / nI b * nI b = nI (a % b) := by decide +kernel
  exact this a (List.mem_range.mpr ha) b (List.mem_range.mpr hb) h0
section OPS4
variable {Sh : Sp} {M M' N N' : Mm} {B μ c n : Nat} {rs : List Sc} {buf : List Int32} {A A' : At} {K K' : Kt} {W W' : Wt} {Q Q' : List QI} {sp : List Int32} {fo rd la : Int32}
theorem x_give (h : CX Sh M B (A, K, W, Q, sp, fo, rd, la) rs buf) (hW : WF A K) (hA : WA A W) (hn : 20000 < n) {j : Nat} (hj : live A j) : ∃ M', fX3_giveFocus n Sh M (B + 1) (nI j) (B + 145) = some M' ∧ CX Sh M' B (A, K, W, gfQ A K W Q j, sp, nI j, rd, la) rs buf ∧ Ag (CR B) M M' := by
  obtain ⟨M', e', r', s', f'⟩ := c_giveFocus (n := n) h.cs hW hA (by omega) (show B + 1 + 137 ≤ B + 145 ∨ B + 145 + 2 ≤ B + 1 by omega) h.2.2.2.2.2 hj
  have hz : CSc Sh M' (B + 1) (A, K, W, gfQ A K W Q j, sp, nI j, rd, la) := r'
  exact ⟨M', e', h.now (FX.sc f') hz s', (FX.sc f').cr⟩
theorem m_give (h : MX Sh N μ (A, K, W, Q, sp, fo, rd, la) rs buf) (hW : WF A K) (hA : WA A W) (hn : 20000 < n) {j : Nat} (hj : live A j) : ∃ N', fX7_focuses n Sh N μ (nI j) = some N' ∧ MX Sh N' μ (A, K, W, gfQ A K W Q j, sp, nI j, rd, la) rs buf ∧ FM μ N N' ∧ N'.1 μ 5 = N.1 μ 5 := by
  obtain ⟨N', e', r', c'⟩ := m_focuses (n := n) h.1 h.ms hW hA hn hj
  have hz : MSc (N'.1 (μ + 1)) (A, K, W, gfQ A K W Q j, sp, nI j, rd, la) := r'
  exact ⟨N', e', h.now c' hz, c'.fm, c'.2.2 5 (by decide) (by decide)⟩
theorem gf_ok (hQ : QOK A Q) {j : Nat} (hj : live A j) : QOK A (gfQ A K W Q j) := by
  unfold gfQ
  by_cases c1 : jns [] (phraseW A K W j) = []
  · rw [if_pos c1]; exact hQ.fil _
  · rw [if_neg c1]
    exact (hQ.fil _).app ⟨Or.inl rfl, ⟨j, hj, rfl⟩, Or.inl rfl⟩
theorem x_foc (h : CX Sh M B (A, K, W, Q, sp, fo, rd, la) rs buf) (hW : WF A K) (hN : WN A) (hn : 20000 < n) (hfo : orN A fo) : fX2_focusNow n Sh M (B + 138) = some (focV A fo) := by
  have ef : M.1 (B + 1) 3 = fo := h.2.1.2.2.2.2.2.1
  have e := c_focusNow (n := n) h.rng h.ct hW hN (by omega) (by rw [ef]; exact hfo)
  rw [ef] at e
  exact e
theorem m_foc (h : MX Sh N μ (A, K, W, Q, sp, fo, rd, la) rs buf) (hW : WF A K) (hN : WN A) (hn : 20000 < n) (hfo : orN A fo) : fX7_focusNow n Sh N μ = some (focV A fo) := by
  have ef : N.1 (μ + 1) 3402 = fo := h.2.1.2.2.2.2.2.1
  have e := m_focusNow (n := n) h.1 h.mp hW hN (by omega) (by rw [ef]; exact hfo)
  rw [ef] at e
  exact e
theorem focV_adm {j : Nat} (hj : live A j) (ha : admP A j) : focV A (nI j) = nI j := cif_pos ⟨j, rfl, hj, ha⟩
/-- other words for a node -/
theorem x_repl (h : CX Sh M B (A, K, W, Q, sp, fo, rd, la) rs buf) (hS : SI c A K W Q fo rd la) (hn : 20000 < n) {j s0 o : Nat} (hj : live A j) (hs : (s0 = 0 ∧ o = B + 1 + 1 + 13 + 4 * j) ∨ (s0 = 1 ∧ o = B + 1 + 1 + 15 + 4 * j)) (P : Prop) : ∃ M', fX6_replaceWords n Sh M B (nI j) o (bI P) = some M' ∧ CX Sh M' B (A, K, sW W j s0 buf, cif (W j s0 ≠ buf ∧ P) (acQ A K (sW W j s0 buf) Q j) Q, sp, fo, rd, la) rs buf ∧ Ag (CR B) M M' := by
  have hb := h.2.2.2.2.1
  have hjl := hj.1
  have hw : WR Sh M o 8 (W j s0) := by
    rcases hs with ⟨e1, e2⟩ | ⟨e1, e2⟩
    · rw [e1, e2]; exact c_textW h.ct hj.1
    · rw [e1, e2]; exact c_labelW h.ct hj.1
  have hblen := hb.2.2.2.2.1
  have hwlen := hw.2.2.2.2.1
  have hS' : SI c A K (sW W j s0 buf) Q fo rd la := hS.words hblen
  have go : ∀ t0 : Int32, ∃ M', fX6_replaceWords_16 n Sh B (nI j) o (bI P) M t0 = some M' ∧ CX Sh M' B (A, K, sW W j s0 buf, cif (t0 ≠ 0 ∧ P) (acQ A K (sW W j s0 buf) Q j) Q, sp, fo, rd, la) rs buf ∧ Ag (CR B) M M' := by
    intro t0
    unfold fX6_replaceWords_16
    obtain ⟨M1, e1, r1, f1⟩ := w_become (n := n) hw hb (by omega) (by omega) (by omega) hblen (by decide)
    have ht := h.ct.word (j := j) (k := s0) hs r1 f1
    obtain ⟨k1, g1⟩ := x_tree h (f1.mono (fun a z => by unfold TS; omega)) ht
    rw [tF_of h.1.2.1.2.2.2.2.1, chk_pos hw.1, bind_of e1]
    by_cases cp : P
    · rw [i0 cp]
      by_cases ct : t0 = 0
      · rw [if_pos ct, cif_neg (fun y => y.1 ct)]
        exact ⟨M1, rfl, k1, g1⟩
      · rw [if_neg ct, cif_pos ⟨ct, cp⟩, tF_of k1.1.2.1.1, tF_of k1.1.2.1.2.2.2.2.2.1, chk_pos k1.2.1.1.1]
        obtain ⟨M2, e2, k2, g2⟩ := x_ann (n := n) k1 hS'.1 hS'.2.1 hn hj
        rw [bind_of e2]
        exact ⟨M2, rfl, k2, g1.tr g2⟩
    · rw [i0n cp, cif_neg (fun y => cp y.2)]
      exact ⟨M1, rfl, k1, g1⟩
  unfold fX6_replaceWords
  rw [tF_of h.1.2.1.2.2.2.2.1, chk_pos hw.1, bind_of (w_matches hw hb (by decide) (by decide) (by omega))]
  by_cases cw : W j s0 = buf
  · rw [if_pos cw, if_neg (by decide)]
    obtain ⟨M', e', k', f'⟩ := go 0
    rw [cif_neg (fun y => y.1 rfl)] at k'
    refine ⟨M', e', ?_, f'⟩
    rw [cif_neg (fun y => y.1 cw)]
    exact k'
  · rw [if_neg cw, if_pos rfl]
    obtain ⟨M', e', k', f'⟩ := go 1
    refine ⟨M', e', ?_, f'⟩
    by_cases cp : P
    · rw [cif_pos ⟨by decide, cp⟩] at k'
      rw [cif_pos ⟨cw, cp⟩]
      exact k'
    · rw [cif_neg (fun y => cp y.2)] at k'
      rw [cif_neg (fun y => cp y.2)]
      exact k'
theorem m_repl (h : MX Sh N μ (A, K, W, Q, sp, fo, rd, la) rs buf) (hS : SI c A K W Q fo rd la) (hn : 20000 < n) {j s0 lf cf : Nat} (hj : live A j) (hs : (s0 = 0 ∧ lf = 12 ∧ cf = 14) ∨ (s0 = 1 ∧ lf = 13 ∧ cf = 22)) (role : Int32) : ∃ N', ((fX7_takes n Sh N μ (nI j) (nI lf) (nI cf)).bind fun r5 => if r5.1 = 0 then (tI r5.2 μ 4 fun x1 => some (x1, r5.2)) else (fX7_of n Sh r5.2 μ (nI j) 3).bind fun r6 => if r6 = role then (fX7_announceChange n Sh r5.2 μ (nI j)).bind fun r7 => (tI r7 μ 4 fun x1 => some (x1, r7)) else (tI r5.2 μ 4 fun x1 => some (x1, r5.2))) = some (nI buf.length, N') ∧ MX Sh N' μ (A, K, sW W j s0 buf, cif (W j s0 ≠ buf ∧ A j 0 = role) (acQ A K (sW W j s0 buf) Q j) Q, sp, fo, rd, la) rs buf ∧ FM μ N N' ∧ N'.1 μ 5 = N.1 μ 5 := by
  obtain ⟨N1, e1, r1, p1⟩ := m_takes (n := n) h.1 h.mp hS.2.1 (by omega) h.2.2.2 hj hs
  obtain ⟨k1, f1, c1⟩ := m_tree h p1 r1
  have hS' : SI c A K (sW W j s0 buf) Q fo rd la := hS.words h.2.2.2.2.1
  rw [bind_of e1]
  dsimp only
  by_cases cw : W j s0 ≠ buf
  · rw [i0 cw, bind_of (mo3 k1.1 k1.mp hj)]
    by_cases cr : A j 0 = role
    · obtain ⟨N2, e2, k2, f2, c2⟩ := m_ann (n := n) k1 hS'.1 hS'.2.1 hS'.2.2.2.1 hn hj
      rw [if_pos cr, cif_pos ⟨cw, cr⟩, bind_of e2, tI_of, k2.2.2.2.1]
      exact ⟨N2, rfl, k2, f1.tr f2, c2.trans c1⟩
    · rw [if_neg cr, cif_neg (fun y => cr y.2), tI_of, k1.2.2.2.1]
      exact ⟨N1, rfl, k1, f1, c1⟩
  · rw [i0n cw, cif_neg (fun y => cw y.1), tI_of, k1.2.2.2.1]
    exact ⟨N1, rfl, k1, f1, c1⟩
theorem rq_ok (hS : SI c A K W Q fo rd la) (hb : buf.length ≤ 8) {j s0 : Nat} (hj : live A j) (P : Prop) : SI c A K (sW W j s0 buf) (cif P (acQ A K (sW W j s0 buf) Q j) Q) fo rd la := by
  have hS' : SI c A K (sW W j s0 buf) Q fo rd la := hS.words hb
  by_cases cp : P
  · rw [cif_pos cp]; exact hS'.queue (ac_ok hS'.1 hS'.2.2.2.1 hj)
  · rw [cif_neg cp]; exact hS'
theorem op_setText {z : Sc} (hI : SIall c z rs) (hb8 : buf.length ≤ 8) (hn : 20000 < n) (a : Int32) : OP Sh B c z rs buf (fun M => fX6_setText n Sh M B a) (fun N => fX7_setText n Sh N (B + 833) a) [("java/lang/IndexOutOfBoundsException", 1), ("java/lang/IllegalStateException", 2)] := by
  obtain ⟨A, K, W, Q, sp, fo, rd, la⟩ := z
  have hS : SI c A K W Q fo rd la := hI.1
  by_cases ca : isN A a
  · obtain ⟨j, hj, rfl⟩ := id ca
    by_cases ct : txtP A j
    · refine ⟨0, nI buf.length, (A, K, sW W j 0 buf, cif (W j 0 ≠ buf ∧ A j 0 = 1) (acQ A K (sW W j 0 buf) Q j) Q, sp, fo, rd, la), kpR rs (A, K, W, Q, sp, fo, rd, la), buf, fun M hM => ?_, fun N hN => ?_, ⟨(rq_ok hS hb8 hj _).up, hI.keep⟩⟩
      · obtain ⟨M1, e1, k1, f1⟩ := x_keep (n := n) hM (by omega)
        obtain ⟨M2, e2, k2, f2⟩ := x_repl (n := n) k1 hS hn (s0 := 0) hj (Or.inl ⟨rfl, rfl⟩) (A j 0 = 1)
        refine Or.inr ⟨M2, ?_, rfl, k2, f1.tr f2⟩
        have g37 : fX6_setText_37 n Sh B (nI j) M (A j 0) = some (.inr (nI buf.length), M2) := by
          unfold fX6_setText_37 fX6_setText_64
          rw [bind_of e1, tF_of k1.1.2.1.1, gF_of k1.2.1.1.1 k1.2.1.1.2.1, chk_pos k1.ct.1.1, bind_of (c_textOf k1.ct hj.1)]
          by_cases c1 : A j 0 = 1
          · rw [bI_pos c1] at e2
            rw [if_pos c1, chk_pos k1.1.1, bind_of e2, tF_of k2.1.2.1.2.2.2.2.1, gI_of k2.2.2.2.2.1.1, k2.2.2.2.2.1.2.2.2.1]
          · rw [bI_neg c1] at e2
            rw [if_neg c1, chk_pos k1.1.1, bind_of e2, tF_of k2.1.2.1.2.2.2.2.1, gI_of k2.2.2.2.2.1.1, k2.2.2.2.2.1.2.2.2.1]
        dsimp only
        unfold fX6_setText
        rw [x_reqA hM, cif_pos ca, xb1, tF_of hM.1.2.1.1, gF_of hM.2.1.1.1 hM.2.1.1.2.1, chk_pos hM.ct.1.1, bind_of (c_roleOf hM.ct _), rd_nI hj.1]
        by_cases c1 : A j 0 = 1
        · rw [if_pos c1]; exact g37
        · rw [if_neg c1, if_pos (ct.resolve_left c1)]; exact g37
      · have h5 := hN.c5 0
        obtain ⟨N1, e1, k1, f1, c1⟩ := m_keep (n := n) h5 hI.wl hI.wls hn
        obtain ⟨N2, e2, k2, f2, c2⟩ := m_repl (n := n) k1 hS hn (s0 := 0) (lf := 12) (cf := 14) hj (Or.inl ⟨rfl, rfl, rfl⟩) 1
        refine ⟨_, N2, ?_, by rw [c2, c1]; exact uI_same, fun _ => rfl, k2, ((FM.u (by omega)).tr f1).tr f2⟩
        dsimp only
        unfold fX7_setText fX7_setText_26 fX7_setText_71
        rw [bind_of (m_isNode hN.1 hN.mp _), i0 ca, bind_of (m_hasText hN.1 hN.mp hj), i0 ct, pI_of hN.1.1, tI_of, uI_same, if_pos rfl, bind_of e1]
        exact e2
    · refine ⟨2, 0, (A, K, W, Q, sp, fo, rd, la), rs, buf, fun M hM => ?_, fun N hN => ?_, hI.up⟩
      · dsimp only
        unfold fX6_setText
        rw [x_reqA hM, cif_pos ca, xb1, tF_of hM.1.2.1.1, gF_of hM.2.1.1.1 hM.2.1.1.2.1, chk_pos hM.ct.1.1, bind_of (c_roleOf hM.ct _), rd_nI hj.1, if_neg (fun y => ct (Or.inl y)), if_neg (fun y => ct (Or.inr y))]
        exact out_err (by decide) (fun _ => rfl) ⟨hM, Ag.rf⟩
      · dsimp only
        unfold fX7_setText fX7_setText_26
        rw [bind_of (m_isNode hN.1 hN.mp _), i0 ca, bind_of (m_hasText hN.1 hN.mp hj), i0n ct, pI_of hN.1.1, tI_of, uI_same, if_neg (by decide)]
        exact m_err (by decide) hN
  · refine ⟨1, 0, (A, K, W, Q, sp, fo, rd, la), rs, buf, fun M hM => ?_, fun N hN => ?_, hI.up⟩
    · dsimp only
      unfold fX6_setText
      rw [x_reqA hM, cif_neg ca, xb0]
      exact out_err (by decide) (fun _ => rfl) ⟨hM, Ag.rf⟩
    · dsimp only
      unfold fX7_setText fX7_setText_26
      rw [bind_of (m_isNode hN.1 hN.mp _), i0n ca, pI_of hN.1.1, tI_of, uI_same, if_neg (by decide)]
      exact m_err (by decide) hN
theorem op_setLabel {z : Sc} (hI : SIall c z rs) (hb8 : buf.length ≤ 8) (hn : 20000 < n) (a : Int32) : OP Sh B c z rs buf (fun M => fX6_setLabel n Sh M B a) (fun N => fX7_setLabel n Sh N (B + 833) a) [("java/lang/IndexOutOfBoundsException", 1)] := by
  obtain ⟨A, K, W, Q, sp, fo, rd, la⟩ := z
  have hS : SI c A K W Q fo rd la := hI.1
  by_cases ca : isN A a
  · obtain ⟨j, hj, rfl⟩ := id ca
    refine ⟨0, nI buf.length, (A, K, sW W j 1 buf, cif (W j 1 ≠ buf ∧ A j 0 = 4) (acQ A K (sW W j 1 buf) Q j) Q, sp, fo, rd, la), kpR rs (A, K, W, Q, sp, fo, rd, la), buf, fun M hM => ?_, fun N hN => ?_, ⟨(rq_ok hS hb8 hj _).up, hI.keep⟩⟩
    · obtain ⟨M1, e1, k1, f1⟩ := x_keep (n := n) hM (by omega)
      obtain ⟨M2, e2, k2, f2⟩ := x_repl (n := n) k1 hS hn (s0 := 1) hj (Or.inr ⟨rfl, rfl⟩) (A j 0 = 4)
      refine Or.inr ⟨M2, ?_, rfl, k2, f1.tr f2⟩
      dsimp only
      unfold fX6_setLabel fX6_setLabel_42
      rw [x_reqA hM, cif_pos ca, xb1, bind_of e1, tF_of k1.1.2.1.1, gF_of k1.2.1.1.1 k1.2.1.1.2.1, chk_pos k1.ct.1.1, bind_of (c_labelOf k1.ct hj.1), tF_of k1.1.2.1.1, gF_of k1.2.1.1.1 k1.2.1.1.2.1, chk_pos k1.ct.1.1, bind_of (c_roleOf k1.ct _), rd_nI hj.1]
      by_cases c1 : A j 0 = 4
      · rw [bI_pos c1] at e2
        rw [if_pos c1, chk_pos k1.1.1, bind_of e2, tF_of k2.1.2.1.2.2.2.2.1, gI_of k2.2.2.2.2.1.1, k2.2.2.2.2.1.2.2.2.1]
      · rw [bI_neg c1] at e2
        rw [if_neg c1, chk_pos k1.1.1, bind_of e2, tF_of k2.1.2.1.2.2.2.2.1, gI_of k2.2.2.2.2.1.1, k2.2.2.2.2.1.2.2.2.1]
    · have h5 := hN.c5 0
      obtain ⟨N1, e1, k1, f1, c1⟩ := m_keep (n := n) h5 hI.wl hI.wls hn
      obtain ⟨N2, e2, k2, f2, c2⟩ := m_repl (n := n) k1 hS hn (s0 := 1) (lf := 13) (cf := 22) hj (Or.inr ⟨rfl, rfl, rfl⟩) 4
      refine ⟨_, N2, ?_, by rw [c2, c1]; exact uI_same, fun _ => rfl, k2, ((FM.u (by omega)).tr f1).tr f2⟩
      dsimp only
      unfold fX7_setLabel fX7_setLabel_14 fX7_setLabel_59
      rw [bind_of (m_isNode hN.1 hN.mp _), i0 ca, pI_of hN.1.1, tI_of, uI_same, if_pos rfl, bind_of e1]
      exact e2
  · refine ⟨1, 0, (A, K, W, Q, sp, fo, rd, la), rs, buf, fun M hM => ?_, fun N hN => ?_, hI.up⟩
    · dsimp only
      unfold fX6_setLabel
      rw [x_reqA hM, cif_neg ca, xb0]
      exact out_err (by decide) (fun _ => rfl) ⟨hM, Ag.rf⟩
    · dsimp only
      unfold fX7_setLabel fX7_setLabel_14
      rw [bind_of (m_isNode hN.1 hN.mp _), i0n ca, pI_of hN.1.1, tI_of, uI_same, if_neg (by decide)]
      exact m_err (by decide) hN
theorem op_setLabelledBy {z : Sc} (hI : SIall c z rs) (hn : 20000 < n) (a b : Int32) : OP Sh B c z rs buf (fun M => fX6_setLabelledBy n Sh M B a b) (fun N => fX7_setLabelledBy n Sh N (B + 833) a b) [("java/lang/IndexOutOfBoundsException", 1), ("java/lang/IllegalArgumentException", 2)] := by
  obtain ⟨A, K, W, Q, sp, fo, rd, la⟩ := z
  have hS : SI c A K W Q fo rd la := hI.1
  by_cases ca : isN A a
  · obtain ⟨j, hj, rfl⟩ := id ca
    by_cases cb : orN A b
    · have goX : ∀ M, CX Sh M B (A, K, W, Q, sp, fo, rd, la) rs buf → fX6_setLabelledBy n Sh M B (nI j) b = fX6_setLabelledBy_15 n Sh B (nI j) b M := by
        intro M hM
        unfold fX6_setLabelledBy
        rw [x_reqA hM, cif_pos ca, xb1]
        rcases cb with e | e
        · rw [if_pos e]
        · by_cases e1 : b = -1
          · rw [if_pos e1]
          · rw [if_neg e1, x_reqA hM, cif_pos (show isN A b from e), xb1]
      have goM : ∀ N, MX Sh N (B + 833) (A, K, W, Q, sp, fo, rd, la) rs buf → fX7_setLabelledBy n Sh N (B + 833) (nI j) b = fX7_setLabelledBy_26 n Sh (B + 833) (nI j) b N (B + 833) := by
        intro N hN
        unfold fX7_setLabelledBy
        rw [bind_of (m_isNode hN.1 hN.mp _), i0 ca]
        rcases cb with e | e
        · rw [if_pos e]
        · by_cases e1 : b = -1
          · rw [if_pos e1]
          · rw [if_neg e1, bind_of (m_isNode hN.1 hN.mp _), i0 (show isN A b from e)]
      by_cases cs : b = nI j
      · refine ⟨2, 0, (A, K, W, Q, sp, fo, rd, la), rs, buf, fun M hM => ?_, fun N hN => ?_, hI.up⟩
        · dsimp only
          rw [goX M hM]
          unfold fX6_setLabelledBy_15
          rw [if_pos cs]
          exact out_err (by decide) (fun _ => rfl) ⟨hM, Ag.rf⟩
        · dsimp only
          rw [goM N hN]
          unfold fX7_setLabelledBy_26 fX7_setLabelledBy_36
          rw [if_pos cs.symm, pI_of hN.1.1, tI_of, uI_same, if_neg (by decide)]
          exact m_err (by decide) hN
      · refine ⟨0, A j 2, (sA A j 2 b, K, W, Q, sp, fo, rd, la), kpR rs (A, K, W, Q, sp, fo, rd, la), buf, fun M hM => ?_, fun N hN => ?_, ⟨(SI.by hS cb).up, hI.keep⟩⟩
        · obtain ⟨M1, e1, k1, f1⟩ := x_keep (n := n) hM (by omega)
          obtain ⟨M2, e2, t2, f2⟩ := c_labelBy (n := n) k1.ct hj b
          obtain ⟨k2, g2⟩ := x_tree k1 f2 t2
          refine Or.inr ⟨M2, ?_, rfl, k2, f1.tr g2⟩
          dsimp only
          rw [goX M hM]
          unfold fX6_setLabelledBy_15
          rw [if_neg cs, bind_of e1, tF_of k1.1.2.1.1, gF_of k1.2.1.1.1 k1.2.1.1.2.1, chk_pos k1.ct.1.1, bind_of (c_labellerOf k1.ct _), rd_nI hj.1, tF_of k1.1.2.1.1, gF_of k1.2.1.1.1 k1.2.1.1.2.1, chk_pos k1.ct.1.1, bind_of e2]
        · have h5 := hN.c5 0
          obtain ⟨N1, e1, k1, f1, c1⟩ := m_keep (n := n) h5 hI.wl hI.wls hn
          have ep : fX7_put n Sh N1 (B + 833) (nI j) 4 b = some (uI N1 (B + 833 + 1) (30 * j + 4) b) := m_put k1.1 hj.1 (w := 4) (by decide) b
          have p2 : PS (B + 833) (fun i => i < 720) N1 (uI N1 (B + 833 + 1) (30 * j + 4) b) := PS.u (by have := hj.1; omega)
          obtain ⟨k2, f2, c2⟩ := m_tree k1 p2 (k1.mp.p4 hS.2.1.wl b (fun i _ h => uI_row h) (fun _ => uI_same))
          refine ⟨A j 2, _, ?_, by rw [c2, c1]; exact uI_same, fun _ => rfl, k2, ((FM.u (by omega)).tr f1).tr f2⟩
          dsimp only
          rw [goM N hN]
          unfold fX7_setLabelledBy_26 fX7_setLabelledBy_36
          rw [if_neg (fun y => cs y.symm), pI_of hN.1.1, tI_of, uI_same, if_pos rfl, bind_of e1, bind_of (mo4 k1.1 k1.mp hj), bind_of ep]
    · have cb1 : b ≠ -1 := fun y => cb (Or.inl y)
      have cb2 : ¬ isN A b := fun y => cb (Or.inr y)
      refine ⟨1, 0, (A, K, W, Q, sp, fo, rd, la), rs, buf, fun M hM => ?_, fun N hN => ?_, hI.up⟩
      · dsimp only
        unfold fX6_setLabelledBy
        rw [x_reqA hM, cif_pos ca, xb1, if_neg cb1, x_reqA hM, cif_neg cb2, xb0]
        exact out_err (by decide) (fun _ => rfl) ⟨hM, Ag.rf⟩
      · dsimp only
        unfold fX7_setLabelledBy fX7_setLabelledBy_22 fX7_setLabelledBy_36
        rw [bind_of (m_isNode hN.1 hN.mp _), i0 ca, if_neg cb1, bind_of (m_isNode hN.1 hN.mp _), i0n cb2, pI_of hN.1.1, tI_of, uI_same, if_neg (by decide)]
        exact m_err (by decide) hN
  · refine ⟨1, 0, (A, K, W, Q, sp, fo, rd, la), rs, buf, fun M hM => ?_, fun N hN => ?_, hI.up⟩
    · dsimp only
      unfold fX6_setLabelledBy
      rw [x_reqA hM, cif_neg ca, xb0]
      exact out_err (by decide) (fun _ => rfl) ⟨hM, Ag.rf⟩
    · dsimp only
      unfold fX7_setLabelledBy fX7_setLabelledBy_22 fX7_setLabelledBy_36
      rw [bind_of (m_isNode hN.1 hN.mp _), i0n ca, pI_of hN.1.1, tI_of, uI_same, if_neg (by decide)]
      exact m_err (by decide) hN
theorem op_focusOn {z : Sc} (hI : SIall c z rs) (hn : 20000 < n) (a : Int32) : OP Sh B c z rs buf (fun M => fX6_focusOn n Sh M B a) (fun N => fX7_focusOn n Sh N (B + 833) a) [("java/lang/IndexOutOfBoundsException", 1), ("java/lang/IllegalStateException", 2)] := by
  obtain ⟨A, K, W, Q, sp, fo, rd, la⟩ := z
  have hS : SI c A K W Q fo rd la := hI.1
  have hW := hS.1
  have hA := hS.2.1
  have hN' := hS.2.2.1
  have hfo := hS.2.2.2.2.1
  by_cases ca : isN A a
  · obtain ⟨j, hj, rfl⟩ := id ca
    by_cases cj : admP A j
    · refine ⟨0, focV A fo, (A, K, W, gfQ A K W Q j, sp, nI j, rd, la), kpR rs (A, K, W, Q, sp, fo, rd, la), buf, fun M hM => ?_, fun N hN => ?_, ⟨((hS.queue (gf_ok hS.2.2.2.1 hj)).foc (Or.inr ⟨j, hj, rfl⟩)).up, hI.keep⟩⟩
      · obtain ⟨M1, e1, k1, f1⟩ := x_keep (n := n) hM (by omega)
        obtain ⟨M2, e2, k2, f2⟩ := x_give (n := n) k1 hW hA hn hj
        refine Or.inr ⟨M2, ?_, rfl, k2, f1.tr f2⟩
        dsimp only
        unfold fX6_focusOn
        rw [x_reqA hM, cif_pos ca, xb1, tF_of hM.1.2.1.2.1, chk_pos hM.rng.1, bind_of (c_admits hM.rng hM.ct hW hN' (by omega) (Or.inr ⟨j, hj, rfl⟩)), bI_congr (orN_adm hj), i0 cj, bind_of e1, tF_of k1.1.2.1.2.1, chk_pos k1.rng.1, bind_of (x_foc k1 hW hN' hn hfo), tF_of k1.1.2.1.1, tF_of k1.1.2.1.2.2.2.2.2.1, chk_pos k1.2.1.1.1, bind_of e2]
      · have h5 := hN.c5 0
        obtain ⟨N1, e1, k1, f1, c1⟩ := m_keep (n := n) h5 hI.wl hI.wls hn
        obtain ⟨N2, e2, k2, f2, c2⟩ := m_give (n := n) k1 hW hA hn hj
        refine ⟨_, N2, ?_, by rw [c2, c1]; exact uI_same, fun _ => rfl, k2, ((FM.u (by omega)).tr f1).tr f2⟩
        dsimp only
        unfold fX7_focusOn fX7_focusOn_26
        rw [bind_of (m_isNode hN.1 hN.mp _), i0 ca, bind_of (m_mayFocus hN.1 hN.mp hW hN' (by omega) hj), i0 cj, pI_of hN.1.1, tI_of, uI_same, if_pos rfl, bind_of e1, bind_of (m_foc k1 hW hN' hn hfo), bind_of e2]
    · refine ⟨2, 0, (A, K, W, Q, sp, fo, rd, la), rs, buf, fun M hM => ?_, fun N hN => ?_, hI.up⟩
      · dsimp only
        unfold fX6_focusOn
        rw [x_reqA hM, cif_pos ca, xb1, tF_of hM.1.2.1.2.1, chk_pos hM.rng.1, bind_of (c_admits hM.rng hM.ct hW hN' (by omega) (Or.inr ⟨j, hj, rfl⟩)), bI_congr (orN_adm hj), i0n cj]
        exact out_err (by decide) (fun _ => rfl) ⟨hM, Ag.rf⟩
      · dsimp only
        unfold fX7_focusOn fX7_focusOn_26
        rw [bind_of (m_isNode hN.1 hN.mp _), i0 ca, bind_of (m_mayFocus hN.1 hN.mp hW hN' (by omega) hj), i0n cj, pI_of hN.1.1, tI_of, uI_same, if_neg (by decide)]
        exact m_err (by decide) hN
  · refine ⟨1, 0, (A, K, W, Q, sp, fo, rd, la), rs, buf, fun M hM => ?_, fun N hN => ?_, hI.up⟩
    · dsimp only
      unfold fX6_focusOn
      rw [x_reqA hM, cif_neg ca, xb0]
      exact out_err (by decide) (fun _ => rfl) ⟨hM, Ag.rf⟩
    · dsimp only
      unfold fX7_focusOn fX7_focusOn_26
      rw [bind_of (m_isNode hN.1 hN.mp _), i0n ca, pI_of hN.1.1, tI_of, uI_same, if_neg (by decide)]
      exact m_err (by decide) hN
end OPS4
