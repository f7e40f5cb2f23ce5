/-! ===== LEVEL 2: what is spoken, read, typed; undo ===== -/
section OPS7
variable {Sh : Sp} {M M' N N' : Mm} {B μ σ c n : Nat} {z : Sc} {rs : List Sc} {buf buf' : List Int32} {A A' : At} {K K' : Kt} {W W' : Wt} {Q Q' : List QI} {sp sp' : List Int32} {fo rd la la' : Int32}
theorem op_speak {z : Sc} (hI : SIall c z rs) (hn : 20000 < n) : OPV Sh B c z rs buf (fun M => fX6_speak n Sh M B) (fun N => fX7_speak n Sh N (B + 833)) := by
  obtain ⟨A, K, W, Q, sp, fo, rd, la⟩ := z
  have hS : SI c A K W Q fo rd la := hI.1
  by_cases cq : Q = []
  · refine ⟨-1, (A, K, W, Q, sp, fo, rd, la), kpR rs (A, K, W, Q, sp, fo, rd, la), buf, fun M hM => ?_, fun N hN => ?_, ⟨hS.up, hI.keep⟩⟩
    · obtain ⟨M1, e1, k1, f1⟩ := x_keep (n := n) hM (by omega)
      have hq := k1.cs.2.2.2.1
      have hw := k1.cs.2.2.2.2.1
      refine ⟨M1, ?_, k1, f1⟩
      dsimp only
      unfold fX6_speak
      rw [bind_of e1, tF_of k1.1.2.1.1, gF_of k1.cs.1.1 k1.cs.1.2.2.1, tF_of k1.1.2.1.1, gF_of k1.cs.1.1 k1.cs.1.2.2.2, chk_pos hq.1.1]
      rcases q_moveFirst (n := n) hq (by omega) hw (Or.inr (by omega)) with ⟨-, e2⟩ | ⟨x, M2, ex, -⟩
      · rw [bind_of e2, if_pos rfl]
      · rw [cq] at ex; cases ex
    · have h5 := hN.c5 0
      obtain ⟨N1, e1, k1, f1, c1⟩ := m_keep (n := n) h5 hI.wl hI.wls hn
      refine ⟨N1, ?_, k1, (FM.u (by omega)).tr f1⟩
      dsimp only
      unfold fX7_speak
      rw [qI_of, bind_of e1, m_at720 k1.1, k1.ms.2.1.1, cq, if_pos (show nI ([] : List QI).length = 0 from rfl)]
  · have h0 : 0 < Q.length := List.length_pos_iff.mpr cq
    have hk := exF_lt false h0
    have hx : Q[exF false Q]? = some Q[exF false Q] := List.getElem?_eq_getElem hk
    generalize Q[exF false Q] = x at *
    refine ⟨nI x.2.2.2.length, (A, K, W, Q.eraseIdx (exF false Q), x.2.2.2, fo, rd, la), kpR rs (A, K, W, Q, sp, fo, rd, la), buf, fun M hM => ?_, fun N hN => ?_, ⟨(hS.queue (hS.2.2.2.1.sub (fun y hy => List.mem_of_mem_eraseIdx hy))).up, hI.keep⟩⟩
    · obtain ⟨M1, e1, k1, f1⟩ := x_keep (n := n) hM (by omega)
      have hq := k1.cs.2.2.2.1
      have hw := k1.cs.2.2.2.2.1
      rcases q_moveFirst (n := n) hq (by omega) hw (Or.inr (by omega)) with ⟨e, -⟩ | ⟨x', M2, ex, e2, r2, w2, f2⟩
      · exact absurd e cq
      · rw [hx] at ex
        cases ex
        have f2' : Ag (SC (B + 1)) M1 M2 := f2.mono (fun a z => by unfold SC; omega)
        have hz : CSc Sh M2 (B + 1) (A, K, W, Q.eraseIdx (exF false Q), x.2.2.2, fo, rd, la) := by
          obtain ⟨q1, q2, q3, q4, q5, q6, q7⟩ := k1.cs
          have eσ := f2.2 (B + 1) (by omega)
          refine ⟨?_, q2.Ag f2 (fun a x y => by omega), by rw [(f2.2 (B + 1 + 1) (by omega)).1]; exact q3, r2, w2, by rw [eσ.1]; exact q6, by rw [eσ.1]; exact q7⟩
          unfold SL at q1 ⊢
          rw [eσ.2]
          exact q1
        obtain ⟨k2, g2⟩ := x_sc k1 f2' hz
        refine ⟨M2, ?_, k2, f1.tr g2⟩
        dsimp only
        unfold fX6_speak
        rw [bind_of e1, tF_of k1.1.2.1.1, gF_of k1.cs.1.1 k1.cs.1.2.2.1, tF_of k1.1.2.1.1, gF_of k1.cs.1.1 k1.cs.1.2.2.2, chk_pos hq.1.1, bind_of e2, if_neg (show ¬ (1 : Int32) = 0 by decide), tF_of k2.1.2.1.1, gF_of k2.cs.1.1 k2.cs.1.2.2.2, gI_of w2.1, w2.2.2.2.1]
    · have h5 := hN.c5 0
      obtain ⟨N1, e1, k1, f1, c1⟩ := m_keep (n := n) h5 hI.wl hI.wls hn
      have hQ := k1.ms.2.1
      have h10 := hQ.2.1
      obtain ⟨r1, r2, r3, r4, r5, r6⟩ := hQ.2.2 _ x hx
      generalize hkk : exF false Q = kk at *
      let X : Nat → Mm := fun k => wI N1 (B + 833 + 1) (tkP 3162 k x.2.2.2 (upd (N1.1 (B + 833 + 1)) 3161 (nI x.2.2.2.length)))
      have hX1 : ∀ k, (X k).1 (B + 833 + 1) = tkP 3162 k x.2.2.2 (upd (N1.1 (B + 833 + 1)) 3161 (nI x.2.2.2.length)) := fun k => wI_same
      have hXL : ∀ k, ML Sh (X k).2.1 (B + 833) := fun k => k1.1
      have hXlow : ∀ k i, i < 3161 → (X k).1 (B + 833 + 1) i = N1.1 (B + 833 + 1) i := fun k i hi => by
        rw [hX1]; unfold tkP upd; rw [if_neg (by omega), if_neg (by omega)]
      have hXl : ∀ k, (X k).1 (B + 833 + 1) 3161 = nI x.2.2.2.length := fun k => by
        rw [hX1]; unfold tkP upd; rw [if_neg (by omega), if_pos rfl]
      have pX : PS (B + 833) (fun i => 3161 ≤ i ∧ i < 3402) N1 (X x.2.2.2.length) := ⟨rfl, fun b hb => wI_off hb, fun i hi => by rw [hX1]; unfold tkP upd; rw [if_neg (by omega), if_neg (by omega)]⟩
      have hQX : MQu ((X x.2.2.2.length).1 (B + 833 + 1)) Q := hQ.ps pX (fun i hi => by unfold QP at hi; omega)
      obtain ⟨N2, e2, q2, p2⟩ := m_drop (n := n) (hXL x.2.2.2.length) hQX hn (k := kk) hk
      have hz : MS (N2.1 (B + 833 + 1)) A K W (Q.eraseIdx kk) x.2.2.2 fo rd la := by
        obtain ⟨s1, s2, s3, s4, s5, s6, s7, s8⟩ := k1.ms
        have eh : ∀ i, 3161 ≤ i → N2.1 (B + 833 + 1) i = (X x.2.2.2.length).1 (B + 833 + 1) i := fun i hi => p2.2.2 i (by unfold QP; omega)
        have el : ∀ i, i < 720 → N2.1 (B + 833 + 1) i = N1.1 (B + 833 + 1) i := fun i hi => by rw [p2.2.2 i (by unfold QP; omega)]; exact hXlow _ i (by omega)
        refine ⟨s1.cong hS.2.1.wl el (fun j _ => Iff.rfl) (fun j _ => ⟨fun _ _ _ => rfl, fun _ => rfl, rfl, rfl, rfl⟩), q2, by rw [eh _ (by omega)]; exact hXl _, r5, fun k hk => ?_, ?_, ?_, ?_⟩
        · rw [eh _ (by omega), hX1]; unfold tkP; rw [if_pos (by omega), Nat.add_sub_cancel_left]
        · rw [eh _ (by omega), pX.2.2 _ (by omega)]; exact s6
        · rw [eh _ (by omega), pX.2.2 _ (by omega)]; exact s7
        · rw [eh _ (by omega), pX.2.2 _ (by omega)]; exact s8
      have hz' : MSc (N2.1 (B + 833 + 1)) (A, K, W, Q.eraseIdx kk, x.2.2.2, fo, rd, la) := hz
      have cX : MC (B + 833) N1 N2 := pX.mc.tr p2.mc
      refine ⟨N2, ?_, k1.now cX hz', ((FM.u (by omega)).tr f1).tr cX.fm⟩
      have e49 : fX7_speak_49 n Sh (B + 833) (uI N1 (B + 833 + 1) 3161 (nI x.2.2.2.length)) (nI kk) 0 = some (nI x.2.2.2.length, N2) := by
        unfold fX7_speak_49
        refine iter_seq (N := x.2.2.2.length) (fun k => (nI k, X k)) (fun k hk' => ?_) ?_ (by omega) (by show (nI 0, _) = (nI 0, wI N1 (B + 833 + 1) _); rw [tk_0]; rfl)
        · unfold fX7_speak_49b
          dsimp only
          rw [tF_of (hXL k).2.1.1, show (3161 : Int32) = nI 3161 from rfl, aI_nI (hXL k).2.2.1 (by decide) (by decide), hXl, if_pos ((nI_ltI (by omega) (by omega)).mpr hk'), tF_of (hXL k).2.1.1, tF_of (hXL k).2.1.1, m_st, bindS, show nI (721 + 244 * kk) + 4 + nI k = nI (721 + 244 * kk + (4 + k)) from by rw [show (4 : Int32) = nI 4 from rfl, nI_addm, nI_addm, Nat.add_assoc], aI_nI (hXL k).2.2.1 (by omega) (by decide), hXlow k _ (by omega), r6 k hk', show (3162 : Int32) + nI k = nI (3162 + k) from nI_addm 3162 k, sI_nI (hXL k).2.2.1 (by omega) (by decide), nI_add1]
          have e5 : uI (X k) (B + 833 + 1) (3162 + k) (x.2.2.2.getD k 0) = X (k + 1) := by
            show uI (wI N1 (B + 833 + 1) _) (B + 833 + 1) _ _ = wI N1 (B + 833 + 1) _
            rw [wI_upd, tk_step]
          rw [e5]
        · unfold fX7_speak_49b fX7_speak_90
          dsimp only
          rw [tF_of (hXL x.2.2.2.length).2.1.1, show (3161 : Int32) = nI 3161 from rfl, aI_nI (hXL x.2.2.2.length).2.2.1 (by decide) (by decide), hXl, if_neg (fun y => Nat.lt_irrefl _ ((nI_ltI (by omega) (by omega)).mp y)), bind_of e2, m_at (p2.ml (hXL x.2.2.2.length)) (by decide), hz.2.2.1]
          rfl
      dsimp only
      unfold fX7_speak
      have eex : fX7_extreme n Sh N1 (B + 833) 0 = some (nI kk) := by
        have := m_extreme (n := n) k1.1 hQ (by omega) false h0
        rw [hkk] at this
        exact this
      rw [qI_of, bind_of e1, m_at720 k1.1, hQ.1, if_neg (fun y => by have := nI_inj (b := 0) (by omega) (by decide) y; omega), bind_of eex, tF_of k1.1.2.1.1, tF_of k1.1.2.1.1, m_st, bindS, show nI (721 + 244 * kk) + 3 = nI (721 + 244 * kk + 3) from nI_addm _ 3, aI_nI k1.1.2.2.1 (by omega) (by decide), r4, show (3161 : Int32) = nI 3161 from rfl, sI_nI k1.1.2.2.1 (by decide) (by decide)]
      exact e49
theorem op_silence {z : Sc} (hI : SIall c z rs) (hn : 20000 < n) : OPV Sh B c z rs buf (fun M => fX6_silence n Sh M B) (fun N => fX7_silence n Sh N (B + 833)) := by
  obtain ⟨A, K, W, Q, sp, fo, rd, la⟩ := z
  have hS : SI c A K W Q fo rd la := hI.1
  refine ⟨nI Q.length, (A, K, W, [], sp, fo, rd, la), kpR rs (A, K, W, Q, sp, fo, rd, la), buf, fun M hM => ?_, fun N hN => ?_, ⟨(hS.queue (fun y hy => absurd hy List.not_mem_nil)).up, hI.keep⟩⟩
  · obtain ⟨M1, e1, k1, f1⟩ := x_keep (n := n) hM (by omega)
    have hq := k1.cs.2.2.2.1
    have a2 : Ag (QS (B + 1 + 110)) M1 (uI M1 (B + 1 + 110) 0 0) := Ag.uI (by unfold QS; omega)
    have q2 : QR Sh (uI M1 (B + 1 + 110) 0 0) (B + 1 + 110) [] := by
      obtain ⟨g1, g2, g3, g4, p, g5, g6, g7, g8⟩ := hq
      have a3 : AgI (fun a => a = B + 1 + 110) M1 (uI M1 (B + 1 + 110) 0 0) := AgI.uI rfl
      refine ⟨g1, uI_same, Nat.zero_le _, fun k hk => ?_, p, g5, g6, g7, fun i x hx => by cases hx⟩
      obtain ⟨l, hl⟩ := g4 k hk
      exact ⟨l, hl.ag a3 (by omega) (by omega)⟩
    have hz : CSc Sh (uI M1 (B + 1 + 110) 0 0) (B + 1) (A, K, W, [], sp, fo, rd, la) := k1.cs.queue a2 q2
    obtain ⟨k2, g2⟩ := x_sc k1 (Ag.uI (by unfold SC; omega)) hz
    refine ⟨_, ?_, k2, f1.tr g2⟩
    dsimp only
    unfold fX6_silence fX1_dropAll
    rw [bind_of e1, tF_of k1.1.2.1.1, gF_of k1.cs.1.1 k1.cs.1.2.2.1, chk_pos hq.1.1, tI_of, qI_of, hq.2.1]
    rfl
  · have h5 := hN.c5 0
    obtain ⟨N1, e1, k1, f1, c1⟩ := m_keep (n := n) h5 hI.wl hI.wls hn
    have p2 : PS (B + 833) QP N1 (uI N1 (B + 833 + 1) 720 0) := PS.u (by unfold QP; omega)
    have hz : MSc ((uI N1 (B + 833 + 1) 720 0).1 (B + 833 + 1)) (A, K, W, [], sp, fo, rd, la) := k1.ms.queue hS.2.1 p2 ⟨uI_same, Nat.zero_le _, fun i x hx => by cases hx⟩
    refine ⟨_, ?_, k1.now p2.mc hz, ((FM.u (by omega)).tr f1).tr p2.mc.fm⟩
    dsimp only
    unfold fX7_silence
    rw [qI_of, bind_of e1, m_at720 k1.1, k1.ms.2.1.1, tF_of k1.1.2.1.1, show (720 : Int32) = nI 720 from rfl, sI_nI k1.1.2.2.1 (by decide) (by decide)]
theorem x_read (k1 : CX Sh M B (A, K, W, Q, sp, fo, rd, la) rs buf) (hS : SI c A K W Q fo rd la) (hn : 20000 < n) {j : Nat} (hc : isCellP A j) : ∃ M', fX6_readCell n Sh M B (nI j) = some M' ∧ CX Sh M' B (A, K, W, Q, jns [] (rdW A K W rd j), fo, nI j, la) rs buf ∧ Ag (CR B) M M' := by
  obtain ⟨M2, e2, r2, f2⟩ := c_readCell (n := n) k1.1 k1.cs hS.1 hS.2.1 (by omega) hS.2.2.2.2.2.1 hc
  have hz : CSc Sh M2 (B + 1) (A, K, W, Q, jns [] (rdW A K W rd j), fo, nI j, la) := r2
  obtain ⟨k2, g2⟩ := x_sc k1 (f2.mono (T := SC (B + 1)) (fun a z => by unfold SC; omega)).toAg hz
  exact ⟨M2, e2, k2, g2⟩
theorem m_read' (k1 : MX Sh N μ (A, K, W, Q, sp, fo, rd, la) rs buf) (hS : SI c A K W Q fo rd la) (hn : 20000 < n) {j : Nat} (hc : isCellP A j) : ∃ N', fX7_reads n Sh N μ (nI j) = some (nI (jns [] (rdW A K W rd j)).length, N') ∧ MX Sh N' μ (A, K, W, Q, jns [] (rdW A K W rd j), fo, nI j, la) rs buf ∧ FM μ N N' ∧ N'.1 μ 5 = N.1 μ 5 := by
  obtain ⟨N2, e2, r2, c2⟩ := m_reads (n := n) k1.1 k1.ms hS.1 hS.2.1 hS.2.2.2.2.2.2.1 hn hS.2.2.2.2.2.1 hc
  have hz : MSc (N2.1 (μ + 1)) (A, K, W, Q, jns [] (rdW A K W rd j), fo, nI j, la) := r2
  exact ⟨N2, e2, k1.now c2 hz, c2.fm, c2.2.2 5 (by decide) (by decide)⟩
theorem op_read {z : Sc} (hI : SIall c z rs) (hn : 20000 < n) (a : Int32) : OP Sh B c z rs buf (fun M => fX6_read n Sh M B a) (fun N => fX7_read n Sh N (B + 833) a) [("java/lang/IndexOutOfBoundsException", 1), ("java/lang/IllegalStateException", 2)] := by
  obtain ⟨A, K, W, Q, sp, fo, rd, la⟩ := z
  have hS : SI c A K W Q fo rd la := hI.1
  have hW := hS.1
  have h0 := hS.2.2.2.2.2.2.1
  by_cases ca : isN A a
  · obtain ⟨j, hj, rfl⟩ := id ca
    have hex : (∃ b, nI j = nI b ∧ isCellP A b) ↔ isCellP A j := ⟨fun ⟨b, e, hb⟩ => by have := nI_inj hj.lt hb.1.lt e; subst this; exact hb, fun z => ⟨j, rfl, z⟩⟩
    by_cases hc : isCellP A j
    · refine ⟨0, nI (jns [] (rdW A K W rd j)).length, (A, K, W, Q, jns [] (rdW A K W rd j), fo, nI j, la), kpR rs (A, K, W, Q, sp, fo, rd, la), buf, fun M hM => ?_, fun N hN => ?_, ⟨(hS.rdl (Or.inr ⟨j, hj, rfl⟩)).up, hI.keep⟩⟩
      · have hg : GR M (B + 141) (B + 1 + 1) := hM.1.2.2.2.1.2
        obtain ⟨M1, e1, k1, f1⟩ := x_keep (n := n) hM (by omega)
        obtain ⟨M2, e2, k2, f2⟩ := x_read (n := n) k1 hS hn hc
        refine Or.inr ⟨M2, ?_, rfl, k2, f1.tr f2⟩
        dsimp only
        unfold fX6_read
        rw [x_reqA hM, cif_pos ca, xb1, tF_of hM.1.2.1.2.2.1, chk_pos hM.1.2.2.2.1.1, bind_of (c_isCell hg hM.ct hW (Or.inr ⟨j, hj, rfl⟩)), bI_congr hex, i0 hc, bind_of e1, bind_of e2, tF_of k2.1.2.1.1, gF_of k2.cs.1.1 k2.cs.1.2.2.2, gI_of k2.cs.2.2.2.2.1.1, k2.cs.2.2.2.2.1.2.2.2.1]
      · have h5 := hN.c5 0
        obtain ⟨N1, e1, k1, f1, c1⟩ := m_keep (n := n) h5 hI.wl hI.wls hn
        obtain ⟨N2, e2, k2, f2, c2⟩ := m_read' (n := n) k1 hS hn hc
        refine ⟨_, N2, ?_, by rw [c2, c1]; exact uI_same, fun _ => rfl, k2, ((FM.u (by omega)).tr f1).tr f2⟩
        dsimp only
        unfold fX7_read fX7_read_26
        rw [bind_of (m_isNode hN.1 hN.mp _), i0 ca, bind_of (m_isCell hN.1 hN.mp hW h0 hj), i0 hc, pI_of hN.1.1, tI_of, uI_same, if_pos rfl, bind_of e1, bind_of e2]
    · refine ⟨2, 0, (A, K, W, Q, sp, fo, rd, la), rs, buf, fun M hM => ?_, fun N hN => ?_, hI.up⟩
      · have hg : GR M (B + 141) (B + 1 + 1) := hM.1.2.2.2.1.2
        dsimp only
        unfold fX6_read
        rw [x_reqA hM, cif_pos ca, xb1, tF_of hM.1.2.1.2.2.1, chk_pos hM.1.2.2.2.1.1, bind_of (c_isCell hg hM.ct hW (Or.inr ⟨j, hj, rfl⟩)), bI_congr hex, i0n hc]
        exact out_err (by decide) (fun _ => rfl) ⟨hM, Ag.rf⟩
      · dsimp only
        unfold fX7_read fX7_read_26
        rw [bind_of (m_isNode hN.1 hN.mp _), i0 ca, bind_of (m_isCell hN.1 hN.mp hW h0 hj), i0n hc, pI_of hN.1.1, tI_of, uI_same, if_neg (by decide)]
        exact m_err (by decide) hN
  · refine ⟨1, 0, (A, K, W, Q, sp, fo, rd, la), rs, buf, fun M hM => ?_, fun N hN => ?_, hI.up⟩
    · dsimp only
      unfold fX6_read
      rw [x_reqA hM, cif_neg ca, xb0]
      exact out_err (by decide) (fun _ => rfl) ⟨hM, Ag.rf⟩
    · dsimp only
      unfold fX7_read fX7_read_26
      rw [bind_of (m_isNode hN.1 hN.mp _), i0n ca, pI_of hN.1.1, tI_of, uI_same, if_neg (by decide)]
      exact m_err (by decide) hN
theorem row_cell (hW : WF A K) {r t : Nat} (hr : live A r) (ht : live A t) (e8 : A r 0 = 8) (e1 : A r 1 = nI t) (e7 : A t 0 = 7) (v : Int32) : kAt (fl A false (K r)) v = -1 ∨ ∃ x, kAt (fl A false (K r)) v = nI x ∧ isCellP A x := by
  rcases kAt_mem (L := fl A false (K r)) (v := v) with e | ⟨x, hx, e⟩
  · exact Or.inl e
  · obtain ⟨h1, h2⟩ := fl_mem.mp hx
    obtain ⟨h3, h4⟩ := hW.2.2.1 r hr x h1
    exact Or.inr ⟨x, e, h3, h2, r, t, hr, ht, h4, e8, e1, e7⟩
theorem bs_cell (hW : WF A K) {j : Nat} (hc : isCellP A j) (d : Int32) : bsV A K j d = -1 ∨ ∃ x, bsV A K j d = nI x ∧ isCellP A x := by
  obtain ⟨h1, h2, h3, h4, h5, h6, h7, h8⟩ := cellP_par hc
  have cv : ∀ r cc, cellV A K (pr A (pr A j)) r cc = -1 ∨ ∃ x, cellV A K (pr A (pr A j)) r cc = nI x ∧ isCellP A x := by
    intro r cc
    unfold cellV
    rcases kAt_mem (L := fl A true (K (pr A (pr A j)))) (v := r) with e | ⟨y, hy, e⟩
    · rw [if_pos e]; exact Or.inl rfl
    · obtain ⟨g1, g2⟩ := fl_mem.mp hy
      obtain ⟨g3, g4⟩ := hW.2.2.1 _ h3 y g1
      rw [e, if_neg (nI_ne_neg g3.lt), nI_clamp g3.lt]
      exact row_cell hW g3 h3 g2 g4 h7 cc
  unfold bsV
  by_cases d0 : d = 0
  · rw [if_pos d0]; exact row_cell hW h2 h3 h5 h6 h7 _
  · rw [if_neg d0]
    by_cases d1 : d = 1
    · rw [if_pos d1]; exact row_cell hW h2 h3 h5 h6 h7 _
    · rw [if_neg d1]
      by_cases d2 : d = 2
      · rw [if_pos d2]; exact cv _ _
      · rw [if_neg d2]; exact cv _ _
theorem op_readBeside {z : Sc} (hI : SIall c z rs) (hn : 20000 < n) (d : Int32) : OP Sh B c z rs buf (fun M => fX6_readBeside n Sh M B d) (fun N => fX7_readBeside n Sh N (B + 833) d) [("java/lang/IllegalArgumentException", 1), ("java/lang/IllegalStateException", 2)] := by
  obtain ⟨A, K, W, Q, sp, fo, rd, la⟩ := z
  have hS : SI c A K W Q fo rd la := hI.1
  have hW := hS.1
  have h0 := hS.2.2.2.2.2.2.1
  have hrd := hS.2.2.2.2.2.1
  have e4 : ∀ M : Mm, fX6_requireKind n Sh M d 4 = some (cif (upto 4 d) (.inr ()) (.inl "java/lang/IllegalArgumentException")) := fun M => x_kind (k := 4) (by decide) d
  have e3 : ∀ N : Mm, fX7_in n Sh N d 0 3 = some (bI (upto 4 d)) := fun N => m_upto (k := 3) (by decide) d
  by_cases cd : upto 4 d
  · have hd0 : ¬ d < 0 := by
      obtain ⟨q, hq, e⟩ := cd
      rw [e]
      exact nI_pos (by omega)
    have goX : ∀ M, CX Sh M B (A, K, W, Q, sp, fo, rd, la) rs buf → fX6_readBeside n Sh M B d = if cif (∃ a, rd = nI a ∧ isCellP A a) (bsV A K rd.toNatClampNeg d) (-1) = (-1) then some (Sum.inl "java/lang/IllegalStateException", M) else (fX6_keepRecord n Sh M B).bind fun r7 => (fX6_readCell n Sh r7 B (cif (∃ a, rd = nI a ∧ isCellP A a) (bsV A K rd.toNatClampNeg d) (-1))).bind fun r8 => some (Sum.inr (cif (∃ a, rd = nI a ∧ isCellP A a) (bsV A K rd.toNatClampNeg d) (-1)), r8) := by
      intro M hM
      have hg : GR M (B + 141) (B + 1 + 1) := hM.1.2.2.2.1.2
      have er : M.1 (B + 1) 4 = rd := hM.cs.2.2.2.2.2.2
      unfold fX6_readBeside
      rw [e4, cif_pos cd, xb1, tF_of hM.1.2.1.2.2.1, tF_of hM.1.2.1.1, gI_of hM.cs.1.1, er, chk_pos hM.1.2.2.2.1.1, bind_of (c_beside hg hM.ct hW (by omega) hrd d)]
    have goM : ∀ N, MX Sh N (B + 833) (A, K, W, Q, sp, fo, rd, la) rs buf → fX7_readBeside n Sh N (B + 833) d = fX7_readBeside_71 n Sh (B + 833) d (uI N (B + 833) 5 0) (cif (∃ a, rd = nI a ∧ isCellP A a) (bsV A K rd.toNatClampNeg d) (-1)) := by
      intro N hN
      have h5 := hN.c5 0
      have er : ∀ {ρ : Type} {X : Int32 → Option ρ}, (tF (uI N (B + 833) 5 0) (B + 833) 0 fun b => aI Sh (uI N (B + 833) 5 0) b 0 3403 X) = X rd := fun {ρ X} => by
        rw [show (3403 : Int32) = nI 3403 from rfl, m_at h5.1 (by decide), h5.ms.2.2.2.2.2.2.1]
      unfold fX7_readBeside fX7_readBeside_15 fX7_readBeside_70
      rw [bind_of (e3 N), i0 cd, pI_of hN.1.1, tI_of, uI_same, if_pos rfl, er, er, er]
      rcases hrd with e | ⟨b, hb, e⟩
      · rw [if_pos e, cif_neg (fun ⟨a, e2, ha⟩ => nI_ne_neg ha.1.lt (e2.symm.trans e))]
      · rw [if_neg (by rw [e]; exact nI_ne_neg hb.lt), e, bind_of (m_isCell h5.1 h5.mp hW h0 hb)]
        by_cases hc : isCellP A b
        · rw [i0 hc, cif_pos ⟨b, rfl, hc⟩, nI_clamp hb.lt, bind_of (m_beside h5.1 h5.mp hW (by omega) hc d hd0)]
        · rw [i0n hc, cif_neg (fun ⟨a, e2, ha⟩ => hc (by have := nI_inj hb.lt ha.1.lt e2; subst this; exact ha))]
    have hcase : cif (∃ a, rd = nI a ∧ isCellP A a) (bsV A K rd.toNatClampNeg d) (-1) = -1 ∨ ∃ x, cif (∃ a, rd = nI a ∧ isCellP A a) (bsV A K rd.toNatClampNeg d) (-1) = nI x ∧ isCellP A x := by
      by_cases y : ∃ a, rd = nI a ∧ isCellP A a
      · rw [cif_pos y]
        obtain ⟨a, e, ha⟩ := y
        rw [e, nI_clamp ha.1.lt]
        exact bs_cell hW ha d
      · rw [cif_neg y]; exact Or.inl rfl
    generalize cif (∃ a, rd = nI a ∧ isCellP A a) (bsV A K rd.toNatClampNeg d) (-1) = tgt at *
    rcases hcase with e | ⟨x, e, hc⟩
    · refine ⟨2, 0, (A, K, W, Q, sp, fo, rd, la), rs, buf, fun M hM => ?_, fun N hN => ?_, hI.up⟩
      · dsimp only
        rw [goX M hM, if_pos e]
        exact out_err (by decide) (fun _ => rfl) ⟨hM, Ag.rf⟩
      · dsimp only
        rw [goM N hN]
        unfold fX7_readBeside_71
        rw [if_pos e, qI_of]
        exact ⟨0, _, rfl, uI_same, fun _ => rfl, (hN.c5 0).c5 2, (FM.u (by omega)).tr (FM.u (by omega))⟩
    · subst e
      refine ⟨0, nI x, (A, K, W, Q, jns [] (rdW A K W rd x), fo, nI x, la), kpR rs (A, K, W, Q, sp, fo, rd, la), buf, fun M hM => ?_, fun N hN => ?_, ⟨(hS.rdl (Or.inr ⟨x, hc.1, rfl⟩)).up, hI.keep⟩⟩
      · obtain ⟨M1, e1, k1, f1⟩ := x_keep (n := n) hM (by omega)
        obtain ⟨M2, e2, k2, f2⟩ := x_read (n := n) k1 hS hn hc
        refine Or.inr ⟨M2, ?_, rfl, k2, f1.tr f2⟩
        dsimp only
        rw [goX M hM, if_neg (nI_ne_neg hc.1.lt), bind_of e1, bind_of e2]
      · have h5 := hN.c5 0
        obtain ⟨N1, e1, k1, f1, c1⟩ := m_keep (n := n) h5 hI.wl hI.wls hn
        obtain ⟨N2, e2, k2, f2, c2⟩ := m_read' (n := n) k1 hS hn hc
        refine ⟨_, N2, ?_, by rw [c2, c1]; exact uI_same, fun _ => rfl, k2, ((FM.u (by omega)).tr f1).tr f2⟩
        dsimp only
        rw [goM N hN]
        unfold fX7_readBeside_71
        rw [if_neg (nI_ne_neg hc.1.lt), bind_of e1, bind_of e2]
  · refine ⟨1, 0, (A, K, W, Q, sp, fo, rd, la), rs, buf, fun M hM => ?_, fun N hN => ?_, hI.up⟩
    · dsimp only
      unfold fX6_readBeside
      rw [e4, cif_neg cd, xb0]
      exact out_err (by decide) (fun _ => rfl) ⟨hM, Ag.rf⟩
    · dsimp only
      unfold fX7_readBeside fX7_readBeside_15
      rw [bind_of (e3 N), i0n cd, pI_of hN.1.1, tI_of, uI_same, if_neg (by decide)]
      exact m_err (by decide) hN
theorem CX.bf (h : CX Sh M B z rs buf) (f : AgI (fun a => a = B + 143 ∨ a = B + 143 + 1) M M') (hw : WR Sh M' (B + 143) 8 buf') : CX Sh M' B z rs buf' ∧ Ag (CR B) M M' := by
  obtain ⟨x1, h2, ⟨h3, h4⟩, h5, h6, l, h7⟩ := h
  refine ⟨⟨by rw [f.1]; exact x1, h2.agg f.toAg (fun a x y => by omega), ⟨by rw [f.2 B (by omega)]; exact h3, h4⟩, h5.agg h4 f.toAg (fun a x1 x2 x3 => by omega), hw, l, h7.ag f (by omega) (by omega)⟩, (f.mono (fun a z => by unfold CR; omega)).toAg⟩
theorem op_type (hI : SIall c z rs) (d : Int32) : OP Sh B c z rs buf (fun M => fX6_type n Sh M B d) (fun N => fX7_type n Sh N (B + 833) d) [("java/lang/IllegalArgumentException", 1), ("java/lang/IllegalStateException", 2)] := by
  by_cases cd : ¬ d < 33 ∧ d ≤ 126
  · have hch : chOK d := by
      obtain ⟨q, hq, e⟩ := nI_of (show ¬ d < 0 from fun y => cd.1 (Int32.lt_trans y (by decide)))
      rw [e] at cd ⊢
      have hle := (nI_leI (b := 126) hq (by decide)).mp cd.2
      have : ∀ q ∈ List.range 127, chOK (nI q) := by unfold chOK; decide +kernel
      exact this q (List.mem_range.mpr (by omega))
    by_cases c8 : buf.length < 8
    · refine ⟨0, nI (buf.length + 1), z, rs, buf ++ [d], fun M hM => ?_, fun N hN => ?_, hI.up⟩
      · have hw := hM.2.2.2.2.1
        obtain ⟨M1, e1, r1, f1⟩ := w_put (n := n) hw hch c8 (by decide)
        obtain ⟨k1, g1⟩ := hM.bf f1 r1
        refine Or.inr ⟨M1, ?_, rfl, k1, g1⟩
        dsimp only
        unfold fX6_type
        rw [if_neg cd.1, if_pos cd.2, tF_of hM.1.2.1.2.2.2.2.1, gI_of hw.1, hw.2.2.2.1, if_pos (show nI buf.length < 8 from (nI_ltI (b := 8) (by omega) (by decide)).mpr c8), tF_of hM.1.2.1.2.2.2.2.1, chk_pos hw.1, bind_of e1, tF_of k1.1.2.1.2.2.2.2.1, gI_of r1.1, r1.2.2.2.1, List.length_append]
        rfl
      · have h5 := hN.c5 0
        obtain ⟨b1, b2, b3⟩ := h5.2.2.2
        refine ⟨nI (buf.length + 1), uI (uI (uI N (B + 833) 5 0) (B + 833 + 3) buf.length d) (B + 833) 4 (nI (buf.length + 1)), ?_, by rw [uI_row (by decide), uI_off (by omega), uI_same], fun _ => rfl, ?_, ((FM.u (by omega)).tr (FM.u (by omega))).tr (FM.u (by omega))⟩
        · dsimp only
          unfold fX7_type fX7_type_30
          have hb4 : N.1 (B + 833) 4 = nI buf.length := hN.2.2.2.1
          rw [bind_of (m_inI N d 33 126), i0 cd, tI_of, hb4, if_neg (show ¬ nI buf.length = 8 from fun y => by have := nI_inj (b := 8) (by omega) (by decide) y; omega), pI_of hN.1.1, tI_of, uI_same, if_pos rfl, tF_of h5.1.2.1.2.2.1, tI_of, b1, sI_nI h5.1.2.2.2.2.1 c8 (by decide), tI_of, qI_of, tI_of, uI_same, uI_off (by omega), b1, nI_add1]
        · obtain ⟨g1, g2, ⟨g3, g4, g5⟩, -⟩ := h5
          refine ⟨g1, by rw [uI_off (by omega), uI_off (by omega)]; exact g2, ⟨by rw [uI_row (by decide), uI_off (by omega)]; exact g3, g4, fun i x hx => by rw [uI_off (by omega), uI_off (by omega)]; exact g5 i x hx⟩, by rw [uI_same, List.length_append]; rfl, by rw [List.length_append, List.length_singleton]; omega, fun k hk => ?_⟩
          rw [List.length_append, List.length_singleton] at hk
          rw [uI_off (by omega)]
          by_cases e : k = buf.length
          · subst e; rw [uI_same]; simp
          · rw [uI_row e, b3 k (by omega)]
            simp [List.getD_eq_getElem?_getD, List.getElem?_append_left (show k < buf.length by omega)]
    · refine ⟨2, 0, z, rs, buf, fun M hM => ?_, fun N hN => ?_, hI.up⟩
      · have hw := hM.2.2.2.2.1
        have := hw.2.2.2.2.1
        dsimp only
        unfold fX6_type
        rw [if_neg cd.1, if_pos cd.2, tF_of hM.1.2.1.2.2.2.2.1, gI_of hw.1, hw.2.2.2.1, if_neg (show ¬ nI buf.length < 8 from fun y => c8 ((nI_ltI (b := 8) (by omega) (by decide)).mp y))]
        exact out_err (by decide) (fun _ => rfl) ⟨hM, Ag.rf⟩
      · dsimp only
        unfold fX7_type fX7_type_30
        have hb4 : N.1 (B + 833) 4 = nI buf.length := hN.2.2.2.1
        have := hN.2.2.2.2.1
        rw [bind_of (m_inI N d 33 126), i0 cd, tI_of, hb4, if_pos (show nI buf.length = 8 by rw [show buf.length = 8 from by omega]; rfl), pI_of hN.1.1, tI_of, uI_same, if_neg (by decide)]
        exact m_err (by decide) hN
  · refine ⟨1, 0, z, rs, buf, fun M hM => ?_, fun N hN => ?_, hI.up⟩
    · dsimp only
      unfold fX6_type fX6_type_12
      by_cases d1 : d < 33
      · rw [if_pos d1]
        exact out_err (by decide) (fun _ => rfl) ⟨hM, Ag.rf⟩
      · rw [if_neg d1, if_neg (fun y => cd ⟨d1, y⟩)]
        exact out_err (by decide) (fun _ => rfl) ⟨hM, Ag.rf⟩
    · dsimp only
      unfold fX7_type fX7_type_30
      rw [bind_of (m_inI N d 33 126), i0n cd, pI_of hN.1.1, tI_of, uI_same, if_neg (by decide)]
      exact m_err (by decide) hN
theorem op_clearText (hI : SIall c z rs) : OPV Sh B c z rs buf (fun M => fX6_clearText n Sh M B) (fun N => fX7_clearText n Sh N (B + 833)) := by
  refine ⟨nI buf.length, z, rs, [], fun M hM => ?_, fun N hN => ?_, hI.up⟩
  · have hw := hM.2.2.2.2.1
    obtain ⟨M1, e1, r1, f1⟩ := w_empty (n := n) hw
    obtain ⟨k1, g1⟩ := hM.bf (f1.mono (fun a z => Or.inl z)) r1
    refine ⟨M1, ?_, k1, g1⟩
    dsimp only
    unfold fX6_clearText
    rw [tF_of hM.1.2.1.2.2.2.2.1, gI_of hw.1, hw.2.2.2.1, tF_of hM.1.2.1.2.2.2.2.1, chk_pos hw.1, bind_of e1]
  · have h5 := hN.c5 0
    refine ⟨uI (uI N (B + 833) 5 0) (B + 833) 4 0, ?_, ?_, (FM.u (by omega)).tr (FM.u (by omega))⟩
    · dsimp only
      unfold fX7_clearText
      rw [qI_of, tI_of, qI_of, h5.2.2.2.1]
    · obtain ⟨g1, g2, ⟨g3, g4, g5⟩, -⟩ := h5
      exact ⟨g1, by rw [uI_off (by omega)]; exact g2, ⟨by rw [uI_row (by decide)]; exact g3, g4, fun i x hx => by rw [uI_off (by omega)]; exact g5 i x hx⟩, uI_same, Nat.zero_le _, fun k hk => absurd hk (Nat.not_lt_zero k)⟩
theorem op_undo (hI : SIall c z rs) (hn : 20000 < n) : OP Sh B c z rs buf (fun M => fX6_undo n Sh M B) (fun N => fX7_undo n Sh N (B + 833)) [("java/lang/IllegalStateException", 1)] := by
  rcases List.eq_nil_or_concat rs with e | ⟨rs', y, e⟩
  · subst e
    refine ⟨1, 0, z, [], buf, fun M hM => ?_, fun N hN => ?_, hI.up⟩
    · dsimp only
      rw [x_undo0 hM]
      exact out_err (by decide) (fun _ => rfl) ⟨hM, Ag.rf⟩
    · obtain ⟨N1, e1, c1, k1, f1⟩ := m_undo0 (n := n) hN
      exact ⟨0, N1, e1, c1, fun _ => rfl, k1, f1⟩
  · rw [List.concat_eq_append] at e
    subst e
    have hy : SIc c y := hI.2 y (by simp)
    refine ⟨0, nI rs'.length, y, rs', buf, fun M hM => ?_, fun N hN => ?_, ⟨hy.up, fun x hx => (hI.2 x (by simp [hx])).up⟩⟩
    · obtain ⟨M1, e1, k1, f1⟩ := x_undo (n := n) hM (by omega)
      exact Or.inr ⟨M1, e1, rfl, k1, f1⟩
    · obtain ⟨N1, e1, c1, k1, f1⟩ := m_undo (n := n) hN hy.2.1.wl hn
      exact ⟨_, N1, e1, c1, fun _ => rfl, k1, f1⟩
end OPS7
