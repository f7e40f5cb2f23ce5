/-! ===== LEVEL 2: dialogs ===== -/
def rd0 (A : At) (v : Int32) : Int32 := rd A v 1 (-1)
section OPS6
variable {Sh : Sp} {M M' N N' : Mm} {B μ ρ σ c n : Nat} {rs : List Sc} {buf : List Int32} {A A' : At} {K K' : Kt} {W W' : Wt} {Q Q' : List QI} {sp : List Int32} {fo rd la la' : Int32}
theorem x_dlg (hM : CX Sh M B (A, K, W, Q, sp, fo, rd, la) rs buf) {j : Nat} (hj : live A j) : fX6_requireDialog n Sh M B (nI j) = some (if A j 0 = 6 then .inr () else .inl "java/lang/IllegalArgumentException") := by
  have ca : isN A (nI j) := ⟨j, hj, rfl⟩
  unfold fX6_requireDialog
  rw [x_reqA hM, cif_pos ca, xb1, tF_of hM.1.2.1.1, gF_of hM.2.1.1.1 hM.2.1.1.2.1, chk_pos hM.ct.1.1, bind_of (c_roleOf hM.ct _), rd_nI hj.1]
  by_cases c6 : A j 0 = 6
  · rw [if_pos c6, if_pos c6]
  · rw [if_neg c6, if_neg c6]
theorem x_dlg0 (hM : CX Sh M B (A, K, W, Q, sp, fo, rd, la) rs buf) {a : Int32} (ca : ¬ isN A a) : fX6_requireDialog n Sh M B a = some (.inl "java/lang/IndexOutOfBoundsException") := by
  unfold fX6_requireDialog
  rw [x_reqA hM, cif_neg ca, xb0]
/-- the page's nodes and its count of openings changed -/
theorem m_treeL (h : MX Sh N μ (A, K, W, Q, sp, fo, rd, la) rs buf) (p : PS μ (fun i => i < 720 ∨ i = 3404) N N') (hP : MP (N'.1 (μ + 1)) A' K' W') (hl : N'.1 (μ + 1) 3404 = la') : MX Sh N' μ (A', K', W', Q, sp, fo, rd, la') rs buf ∧ FM μ N N' ∧ N'.1 μ 5 = N.1 μ 5 := by
  obtain ⟨h1, h2, h3, h4, h5, h6, h7, h8⟩ := h.ms
  have e : ∀ i, 720 ≤ i → i ≠ 3404 → N'.1 (μ + 1) i = N.1 (μ + 1) i := fun i hi h => p.2.2 i (by omega)
  have hz : MS (N'.1 (μ + 1)) A' K' W' Q sp fo rd la' := ⟨hP, h2.ps p (fun i hi => by unfold QP at hi; omega), by rw [e _ (by omega) (by omega)]; exact h3, h4, fun j hj => by rw [e _ (by omega) (by omega)]; exact h5 j hj, by rw [e _ (by omega) (by omega)]; exact h6, by rw [e _ (by omega) (by omega)]; exact h7, hl⟩
  have hz' : MSc (N'.1 (μ + 1)) (A', K', W', Q, sp, fo, rd, la') := hz
  exact ⟨h.now p.mc hz', p.mc.fm, p.mc.2.2 5 (by decide) (by decide)⟩
theorem x_foN (h : CX Sh M B (A, K, W, Q, sp, fo, rd, la) rs buf) (v : Int32) : CX Sh (uI M (B + 1) 3 v) B (A, K, W, Q, sp, v, rd, la) rs buf ∧ Ag (CR B) M (uI M (B + 1) 3 v) := by
  have hz : CSc Sh (uI M (B + 1) 3 v) (B + 1) (A, K, W, Q, sp, v, rd, la) := h.cs.foc v
  exact x_sc h (Ag.uI (by unfold SC; omega)) hz
theorem m_foN (h : MX Sh N μ (A, K, W, Q, sp, fo, rd, la) rs buf) (hA : WA A W) (v : Int32) : MX Sh (uI N (μ + 1) 3402 v) μ (A, K, W, Q, sp, v, rd, la) rs buf ∧ FM μ N (uI N (μ + 1) 3402 v) ∧ (uI N (μ + 1) 3402 v).1 μ 5 = N.1 μ 5 := by
  have p : PS μ (fun i => i = 3402) N (uI N (μ + 1) 3402 v) := PS.u rfl
  have hz : MSc ((uI N (μ + 1) 3402 v).1 (μ + 1)) (A, K, W, Q, sp, v, rd, la) := h.ms.foc hA v
  exact ⟨h.now p.mc hz, p.mc.fm, p.mc.2.2 5 (by decide) (by decide)⟩
theorem focV_neg : focV A (-1) = -1 := by
  unfold focV
  by_cases y : ∃ a, (-1 : Int32) = nI a ∧ live A a ∧ admP A a
  · rw [cif_pos y]
  · rw [cif_neg y]
theorem op_open {z : Sc} (hI : SIall c z rs) (hc : c < 1000) (hn : 20000 < n) (a : Int32) : OP Sh B c z rs buf (fun M => fX6_open n Sh M B a) (fun N => fX7_open n Sh N (B + 833) a) [("java/lang/IndexOutOfBoundsException", 1), ("java/lang/IllegalArgumentException", 2), ("java/lang/IllegalStateException", 3)] := by
  obtain ⟨A, K, W, Q, sp, fo, rd, la⟩ := z
  have hS : SI c A K W Q fo rd la := hI.1
  have hW := hS.1
  have hA := hS.2.1
  have hN' := hS.2.2.1
  have hfo := hS.2.2.2.2.1
  by_cases ca : isN A a
  · obtain ⟨j, hj, rfl⟩ := id ca
    have hjl := hj.1
    by_cases c6 : A j 0 = 6
    · by_cases c3 : A j 3 = 0
      · -- it opens
        have hS2 := SI.opn hS hc hj (v := focV A fo) focV_or
        have hl2 : ∀ i, live (sA (sA A j 3 (la + 1)) j 4 (focV A fo)) i ↔ live A i := fun i => live.cong (by rw [sA_k (by decide), sA_k (by decide)])
        have hla1 : ¬ (la + 1 = 0) := by
          obtain ⟨-, -, -, -, -, -, -, l, e, hl⟩ := hS
          rw [e, nI_add1]
          intro y
          have := nI_inj (b := 0) (by omega) (by decide) y
          omega
        -- both as far as the order
        have goX : ∀ M, CX Sh M B (A, K, W, Q, sp, fo, rd, la) rs buf → ∃ M1, CX Sh M1 B (sA (sA A j 3 (la + 1)) j 4 (focV A fo), K, W, Q, sp, fo, rd, la + 1) (kpR rs (A, K, W, Q, sp, fo, rd, la)) buf ∧ Ag (CR B) M M1 ∧ fX6_open n Sh M B (nI j) = (fX4_liesBelow n Sh M1 (B + 1 + 1) (oi (ordL (sA (sA A j 3 (la + 1)) j 4 (focV A fo)) K)[0]?) (nI j)).bind fun r20 => if r20 = 0 then pI Sh M1 (B + 1) 3 3 (-1) fun M22 => fX6_open_105 n Sh B (nI j) M22 else (fX3_giveFocus n Sh M1 (B + 1) (oi (ordL (sA (sA A j 3 (la + 1)) j 4 (focV A fo)) K)[0]?) (B + 145)).bind fun r25 => fX6_open_105 n Sh B (nI j) r25 := by
          intro M hM
          obtain ⟨M1, e1, k1, f1⟩ := x_keep (n := n) hM (by omega)
          have ela : M1.1 (B + 1 + 1) 9 = la := k1.2.1.2.2.1
          obtain ⟨M2, e2, t2, l2, f2⟩ := c_openDialog (n := n) k1.ct hj (focV A fo)
          rw [ela] at t2 l2
          obtain ⟨k2, g2⟩ := x_treeL k1 f2 t2 l2
          obtain ⟨M3, e3, r3, k3, f3⟩ := x_fill (n := n) k2 hS2.1 hS2.2.2.1 hn
          refine ⟨M3, k3, (f1.tr g2).tr ((f3.mono (fun a z => by unfold CR; omega)).toAg), ?_⟩
          unfold fX6_open
          rw [x_dlg hM hj, if_pos c6, xb1, tF_of hM.1.2.1.1, gF_of hM.2.1.1.1 hM.2.1.1.2.1, chk_pos hM.ct.1.1, bind_of (c_isOpen hM.ct _), rd_nI hj.1, i0n (fun y => y c3), bind_of e1, tF_of k1.1.2.1.1, gF_of k1.2.1.1.1 k1.2.1.1.2.1, tF_of k1.1.2.1.2.1, chk_pos k1.rng.1, bind_of (x_foc k1 hW hN' hn hfo), chk_pos k1.ct.1.1, bind_of e2, tF_of k2.1.2.1.2.1, chk_pos k2.rng.1, bind_of e3, tF_of k3.1.2.1.2.1, chk_pos k3.rng.1, show (0 : Int32) = nI 0 from rfl, bind_of (c_at k3.rng r3 (ordL_len hS2.1) (nI 0)), kAt_nI (by decide), tF_of k3.1.2.1.1, gF_of k3.2.1.1.1 k3.2.1.1.2.1, chk_pos k3.ct.1.1, tF_of k3.1.2.1.1, tF_of k3.1.2.1.1, tF_of k3.1.2.1.2.2.2.2.2.1, chk_pos k3.2.1.1.1]
        have goM : ∀ N, MX Sh N (B + 833) (A, K, W, Q, sp, fo, rd, la) rs buf → ∃ N1, MX Sh N1 (B + 833) (sA (sA A j 3 (la + 1)) j 4 (focV A fo), K, W, Q, sp, fo, rd, la + 1) (kpR rs (A, K, W, Q, sp, fo, rd, la)) buf ∧ FM (B + 833) N N1 ∧ N1.1 (B + 833) 5 = 0 ∧ MO N1 (B + 833) (ordL (sA (sA A j 3 (la + 1)) j 4 (focV A fo)) K) ∧ fX7_open n Sh N (B + 833) (nI j) = if nI (ordL (sA (sA A j 3 (la + 1)) j 4 (focV A fo)) K).length ≤ 0 then fX7_open_135 n Sh (B + 833) (nI j) N1 else aI Sh N1 (B + 833 + 6) 0 0 fun x18 => (fX7_isBelow n Sh N1 (B + 833) x18 (nI j)).bind fun r19 => if r19 = 0 then fX7_open_135 n Sh (B + 833) (nI j) N1 else aI Sh N1 (B + 833 + 6) 0 0 fun x21 => (fX7_focuses n Sh N1 (B + 833) x21).bind fun r22 => fX7_open_144 n Sh (B + 833) (nI j) r22 := by
          intro N hN
          have h5 := hN.c5 0
          obtain ⟨N1, e1, k1, f1, c1⟩ := m_keep (n := n) h5 hI.wl hI.wls hn
          have ela : N1.1 (B + 833 + 1) 3404 = la := k1.2.1.2.2.2.2.2.2.2
          have ep1 : fX7_put n Sh N1 (B + 833) (nI j) 11 (focV A fo) = some (uI N1 (B + 833 + 1) (30 * j + 11) (focV A fo)) := m_put k1.1 hj.1 (w := 11) (by decide) _
          have L1 : ML Sh (uI N1 (B + 833 + 1) (30 * j + 11) (focV A fo)).2.1 (B + 833) := k1.1
          have v1 : (uI N1 (B + 833 + 1) (30 * j + 11) (focV A fo)).1 (B + 833 + 1) 3404 = la := by rw [uI_row (by omega)]; exact ela
          have ep2 : fX7_put n Sh (uI (uI N1 (B + 833 + 1) (30 * j + 11) (focV A fo)) (B + 833 + 1) 3404 (la + 1)) (B + 833) (nI j) 10 (la + 1) = some (uI (uI (uI N1 (B + 833 + 1) (30 * j + 11) (focV A fo)) (B + 833 + 1) 3404 (la + 1)) (B + 833 + 1) (30 * j + 10) (la + 1)) := m_put (M := uI (uI N1 (B + 833 + 1) (30 * j + 11) (focV A fo)) (B + 833 + 1) 3404 (la + 1)) k1.1 hj.1 (w := 10) (by decide) _
          have p2 : PS (B + 833) (fun i => i < 720 ∨ i = 3404) N1 (uI (uI (uI N1 (B + 833 + 1) (30 * j + 11) (focV A fo)) (B + 833 + 1) 3404 (la + 1)) (B + 833 + 1) (30 * j + 10) (la + 1)) := ((PS.u (by omega)).tr (PS.u (by omega))).tr (PS.u (by omega))
          have hP2 : MP ((uI (uI (uI N1 (B + 833 + 1) (30 * j + 11) (focV A fo)) (B + 833 + 1) 3404 (la + 1)) (B + 833 + 1) (30 * j + 10) (la + 1)).1 (B + 833 + 1)) (sA (sA A j 3 (la + 1)) j 4 (focV A fo)) K W := k1.mp.p10 hA.wl (la + 1) (focV A fo) (fun i hi h10 h11 => by rw [uI_row h10, uI_row (by omega), uI_row h11]) (fun _ => uI_same) (fun _ => by rw [uI_row (by omega), uI_row (by omega), uI_same, if_neg hla1])
          have v2 : (uI (uI (uI N1 (B + 833 + 1) (30 * j + 11) (focV A fo)) (B + 833 + 1) 3404 (la + 1)) (B + 833 + 1) (30 * j + 10) (la + 1)).1 (B + 833 + 1) 3404 = la + 1 := by rw [uI_row (by omega), uI_same]
          obtain ⟨k2, f2, c2⟩ := m_treeL k1 p2 hP2 v2
          obtain ⟨N3, e3, r3, w3⟩ := m_layOrder (n := n) k2.1 k2.mp hS2.1 hS2.2.2.1 (by omega)
          have k3 := k2.os w3
          refine ⟨N3, k3, (((FM.u (by omega)).tr f1).tr f2).tr w3.mc.fm, by rw [w3.2.2 5 (by decide), c2, c1]; exact uI_same, r3, ?_⟩
          unfold fX7_open fX7_open_43
          rw [bind_of (m_isNode hN.1 hN.mp _), i0 ca, bind_of (mo3 hN.1 hN.mp hj), if_pos c6, bind_of (mo10 hN.1 hN.mp hj), c3, if_pos (show (0 : Int32) ≤ 0 by decide), pI_of hN.1.1, tI_of, uI_same, if_pos rfl, bind_of e1, bind_of (m_foc k1 hW hN' hn hfo), bind_of ep1, tF_of L1.2.1.1, show (3404 : Int32) = nI 3404 from rfl, aI_nI L1.2.2.1 (by decide) (by decide), v1, sI_nI L1.2.2.1 (by decide) (by decide), tF_of (show (uI (uI N1 (B + 833 + 1) (30 * j + 11) (focV A fo)) (B + 833 + 1) 3404 (la + 1)).2.1 (B + 833) 0 = some (B + 833 + 1) from k1.1.2.1.1), aI_nI L1.2.2.1 (by decide) (by decide), uI_same, bind_of ep2, bind_of e3, tI_of, r3.1, tF_of k3.1.2.1.2.2.2.2.2, tF_of k3.1.2.1.2.2.2.2.2]
        have hlen2 := ordL_len (A := sA (sA A j 3 (la + 1)) j 4 (focV A fo)) hS2.1
        have hor2 : orN (sA (sA A j 3 (la + 1)) j 4 (focV A fo)) fo := hS2.2.2.2.2.1
        by_cases cP : ∃ x, (ordL (sA (sA A j 3 (la + 1)) j 4 (focV A fo)) K)[0]? = some x ∧ j ∈ chain (sA (sA A j 3 (la + 1)) j 4 (focV A fo)) (sA (sA A j 3 (la + 1)) j 4 (focV A fo) x 1)
        · obtain ⟨x, ex, hx⟩ := cP
          have hxm := ordL_mem (List.mem_of_getElem? ex)
          have hxl := ordL_live hS2.1 (List.mem_of_getElem? ex)
          generalize sA (sA A j 3 (la + 1)) j 4 (focV A fo) = A2 at *
          refine ⟨0, nI x, (A2, K, W, gfQ A2 K W Q x, sp, nI x, rd, la + 1), kpR rs (A, K, W, Q, sp, fo, rd, la), buf, fun M hM => ?_, fun N hN => ?_, ⟨(hS2.queue (gf_ok hS2.2.2.2.1 hxl)).foc (Or.inr ⟨x, hxl, rfl⟩), hI.keep⟩⟩
          · obtain ⟨M1, k1, f1, e1⟩ := goX M hM
            obtain ⟨M2, e2, k2, f2⟩ := x_give (n := n) k1 hS2.1 hS2.2.1 hn hxl
            refine Or.inr ⟨M2, ?_, rfl, k2, f1.tr f2⟩
            dsimp only
            rw [e1, ex, show oi (some x) = nI x from rfl, bind_of (c_liesBelow k1.ct hS2.1 (by omega) (Or.inr ⟨x, hxl, rfl⟩) hj.lt), rd_nI hxl.1, i0 hx, bind_of e2]
            unfold fX6_open_105
            rw [tF_of k2.1.2.1.2.1, chk_pos k2.rng.1, bind_of (x_foc k2 hS2.1 hS2.2.2.1 hn (Or.inr ⟨x, hxl, rfl⟩)), focV_adm hxl hxm.2]
          · obtain ⟨N1, k1, f1, c1, r1, e1⟩ := goM N hN
            obtain ⟨N2, e2, k2, f2, c2⟩ := m_give (n := n) k1 hS2.1 hS2.2.1 hn hxl
            have hpos := (List.getElem?_eq_some_iff.mp ex).1
            have e0 : ∀ {ρ : Type} {X : Int32 → Option ρ}, aI Sh N1 (B + 833 + 6) 0 0 X = X (nI x) := fun {ρ X} => by
              rw [show (0 : Int32) = nI 0 from rfl, aI_nI k1.1.2.2.2.2.2.2.2 (by decide) (by decide), r1.2.get hpos]
              congr 2
              exact (List.getElem?_eq_some_iff.mp ex).2
            refine ⟨nI x, N2, ?_, by rw [c2]; exact c1, fun _ => rfl, k2, f1.tr f2⟩
            dsimp only
            rw [e1, if_neg (by rw [nI_le0 (by omega)]; omega), e0, e0, bind_of (m_isBelow k1.1 k1.mp hS2.1 (by omega) hxl hj.1), i0 hx, bind_of e2]
            unfold fX7_open_144
            rw [bind_of (m_foc k2 hS2.1 hS2.2.2.1 hn (Or.inr ⟨x, hxl, rfl⟩)), focV_adm hxl hxm.2]
        · refine ⟨0, -1, (sA (sA A j 3 (la + 1)) j 4 (focV A fo), K, W, Q, sp, -1, rd, la + 1), kpR rs (A, K, W, Q, sp, fo, rd, la), buf, fun M hM => ?_, fun N hN => ?_, ⟨hS2.foc (Or.inl rfl), hI.keep⟩⟩
          · obtain ⟨M1, k1, f1, e1⟩ := goX M hM
            obtain ⟨k2, f2⟩ := x_foN k1 (-1)
            refine Or.inr ⟨_, ?_, rfl, k2, f1.tr f2⟩
            dsimp only
            have hor : orN (sA (sA A j 3 (la + 1)) j 4 (focV A fo)) (oi (ordL (sA (sA A j 3 (la + 1)) j 4 (focV A fo)) K)[0]?) := by
              cases hx : (ordL (sA (sA A j 3 (la + 1)) j 4 (focV A fo)) K)[0]? with
              | none => exact Or.inl rfl
              | some x => exact Or.inr ⟨x, ordL_live hS2.1 (List.mem_of_getElem? hx), rfl⟩
            have hnb : ¬ j ∈ chain (sA (sA A j 3 (la + 1)) j 4 (focV A fo)) (rd0 (sA (sA A j 3 (la + 1)) j 4 (focV A fo)) (oi (ordL (sA (sA A j 3 (la + 1)) j 4 (focV A fo)) K)[0]?)) := by
              cases hx : (ordL (sA (sA A j 3 (la + 1)) j 4 (focV A fo)) K)[0]? with
              | none =>
                unfold rd0
                rw [show oi none = -1 from rfl, rd_neg, chain_neg (by decide)]
                exact List.not_mem_nil
              | some x =>
                have hxl := ordL_live hS2.1 (List.mem_of_getElem? hx)
                unfold rd0
                rw [show oi (some x) = nI x from rfl, rd_nI hxl.1]
                exact fun y => cP ⟨x, hx, y⟩
            unfold rd0 at hnb
            rw [e1, bind_of (c_liesBelow k1.ct hS2.1 (by omega) hor hj.lt), i0n hnb, pI_of k1.2.1.1.1]
            unfold fX6_open_105
            rw [tF_of k2.1.2.1.2.1, chk_pos k2.rng.1, bind_of (x_foc k2 hS2.1 hS2.2.2.1 hn (Or.inl rfl)), focV_neg]
          · obtain ⟨N1, k1, f1, c1, r1, e1⟩ := goM N hN
            obtain ⟨k2, f2, c2⟩ := m_foN k1 hS2.2.1 (-1)
            have h135 : fX7_open_135 n Sh (B + 833) (nI j) N1 = some (-1, uI N1 (B + 833 + 1) 3402 (-1)) := by
              unfold fX7_open_135 fX7_open_144
              rw [tF_of k1.1.2.1.1, show (3402 : Int32) = nI 3402 from rfl, sI_nI k1.1.2.2.1 (by decide) (by decide), bind_of (m_foc k2 hS2.1 hS2.2.2.1 hn (Or.inl rfl)), focV_neg]
            refine ⟨-1, _, ?_, by rw [c2]; exact c1, fun _ => rfl, k2, f1.tr f2⟩
            dsimp only
            rw [e1]
            simp only [nI_le0 (show (ordL (sA (sA A j 3 (la + 1)) j 4 (focV A fo)) K).length < 2 ^ 31 by omega)]
            cases hx : (ordL (sA (sA A j 3 (la + 1)) j 4 (focV A fo)) K)[0]? with
            | none =>
              rw [if_pos (by have := List.getElem?_eq_none_iff.mp hx; omega)]
              exact h135
            | some x =>
              have hxl := ordL_live hS2.1 (List.mem_of_getElem? hx)
              have hpos := (List.getElem?_eq_some_iff.mp hx).1
              have e0 : ∀ {ρ : Type} {X : Int32 → Option ρ}, aI Sh N1 (B + 833 + 6) 0 0 X = X (nI x) := fun {ρ X} => by
                rw [show (0 : Int32) = nI 0 from rfl, aI_nI k1.1.2.2.2.2.2.2.2 (by decide) (by decide), r1.2.get hpos, (List.getElem?_eq_some_iff.mp hx).2]
              rw [if_neg (by omega), e0, bind_of (m_isBelow k1.1 k1.mp hS2.1 (by omega) hxl hj.1), i0n (fun y => cP ⟨x, hx, y⟩)]
              exact h135
      · refine ⟨3, 0, (A, K, W, Q, sp, fo, rd, la), rs, buf, fun M hM => ?_, fun N hN => ?_, hI.up⟩
        · dsimp only
          unfold fX6_open
          rw [x_dlg hM hj, if_pos c6, xb1, tF_of hM.1.2.1.1, gF_of hM.2.1.1.1 hM.2.1.1.2.1, chk_pos hM.ct.1.1, bind_of (c_isOpen hM.ct _), rd_nI hj.1, i0 c3]
          exact out_err (by decide) (fun _ => rfl) ⟨hM, Ag.rf⟩
        · dsimp only
          unfold fX7_open fX7_open_43
          have np : ¬ A j 3 ≤ 0 := fun y => by
            obtain ⟨q, hq, e⟩ := nI_of (hN'.1 j hj)
            rw [e, nI_le0 hq] at y
            subst y
            exact c3 e
          rw [bind_of (m_isNode hN.1 hN.mp _), i0 ca, bind_of (mo3 hN.1 hN.mp hj), if_pos c6, bind_of (mo10 hN.1 hN.mp hj), if_neg np, pI_of hN.1.1, tI_of, uI_same, if_neg (by decide)]
          exact m_err (by decide) hN
    · refine ⟨2, 0, (A, K, W, Q, sp, fo, rd, la), rs, buf, fun M hM => ?_, fun N hN => ?_, hI.up⟩
      · dsimp only
        unfold fX6_open
        rw [x_dlg hM hj, if_neg c6, xb0]
        exact out_err (by decide) (fun _ => rfl) ⟨hM, Ag.rf⟩
      · dsimp only
        unfold fX7_open fX7_open_43
        rw [bind_of (m_isNode hN.1 hN.mp _), i0 ca, bind_of (mo3 hN.1 hN.mp hj), if_neg c6, pI_of hN.1.1, tI_of, uI_same, if_neg (by decide)]
        exact m_err (by decide) hN
  · refine ⟨1, 0, (A, K, W, Q, sp, fo, rd, la), rs, buf, fun M hM => ?_, fun N hN => ?_, hI.up⟩
    · dsimp only
      unfold fX6_open
      rw [x_dlg0 hM ca, xb0]
      exact out_err (by decide) (fun _ => rfl) ⟨hM, Ag.rf⟩
    · dsimp only
      unfold fX7_open fX7_open_43
      rw [bind_of (m_isNode hN.1 hN.mp _), i0n ca, pI_of hN.1.1, tI_of, uI_same, if_neg (by decide)]
      exact m_err (by decide) hN
theorem op_close {z : Sc} (hI : SIall c z rs) (hn : 20000 < n) (a : Int32) : OP Sh B c z rs buf (fun M => fX6_close n Sh M B a) (fun N => fX7_close n Sh N (B + 833) a) [("java/lang/IndexOutOfBoundsException", 1), ("java/lang/IllegalArgumentException", 2), ("java/lang/IllegalStateException", 3)] := by
  obtain ⟨A, K, W, Q, sp, fo, rd, la⟩ := z
  have hS : SI c A K W Q fo rd la := hI.1
  by_cases ca : isN A a
  · obtain ⟨j, hj, rfl⟩ := id ca
    have hjl := hj.1
    by_cases c6 : A j 0 = 6
    · by_cases c3 : A j 3 = 0
      · refine ⟨3, 0, (A, K, W, Q, sp, fo, rd, la), rs, buf, fun M hM => ?_, fun N hN => ?_, hI.up⟩
        · dsimp only
          unfold fX6_close
          rw [x_dlg hM hj, if_pos c6, xb1, tF_of hM.1.2.1.1, gF_of hM.2.1.1.1 hM.2.1.1.2.1, chk_pos hM.ct.1.1, bind_of (c_isOpen hM.ct _), rd_nI hj.1, i0n (fun y => y c3)]
          exact out_err (by decide) (fun _ => rfl) ⟨hM, Ag.rf⟩
        · dsimp only
          unfold fX7_close fX7_close_43
          rw [bind_of (m_isNode hN.1 hN.mp _), i0 ca, bind_of (mo3 hN.1 hN.mp hj), if_pos c6, bind_of (mo10 hN.1 hN.mp hj), if_pos c3, pI_of hN.1.1, tI_of, uI_same, if_neg (by decide)]
          exact m_err (by decide) hN
      · have hS2 := SI.close hS (j := j)
        have hb4 : orN (sA A j 3 0) (A j 4) := (hS.2.1 j hj).2.2.2.mono (fun i => (live_sA (by decide)).mpr)
        have goX : ∀ M, CX Sh M B (A, K, W, Q, sp, fo, rd, la) rs buf → ∃ M1, CX Sh M1 B (sA A j 3 0, K, W, Q, sp, fo, rd, la) (kpR rs (A, K, W, Q, sp, fo, rd, la)) buf ∧ Ag (CR B) M M1 ∧ fX6_close n Sh M B (nI j) = (fX2_admits n Sh M1 (B + 138) (A j 4)).bind fun r16 => if r16 = 0 then fX6_close_79 n Sh B (nI j) M1 else (fX3_giveFocus n Sh M1 (B + 1) (A j 4) (B + 145)).bind fun r19 => fX6_close_79 n Sh B (nI j) r19 := by
          intro M hM
          obtain ⟨M1, e1, k1, f1⟩ := x_keep (n := n) hM (by omega)
          obtain ⟨M2, e2, t2, f2⟩ := c_closeDialog (n := n) k1.ct hj
          obtain ⟨k2, g2⟩ := x_tree k1 (agTS f2) t2
          refine ⟨M2, k2, f1.tr g2, ?_⟩
          unfold fX6_close
          rw [x_dlg hM hj, if_pos c6, xb1, tF_of hM.1.2.1.1, gF_of hM.2.1.1.1 hM.2.1.1.2.1, chk_pos hM.ct.1.1, bind_of (c_isOpen hM.ct _), rd_nI hj.1, i0 c3, bind_of e1, tF_of k1.1.2.1.1, gF_of k1.2.1.1.1 k1.2.1.1.2.1, chk_pos k1.ct.1.1, bind_of e2, tF_of k2.1.2.1.1, gF_of k2.2.1.1.1 k2.2.1.1.2.1, chk_pos k2.ct.1.1, bind_of (c_returnOf k2.ct _), rd_nI hj.1, sA_k (by decide), tF_of k2.1.2.1.2.1, chk_pos k2.rng.1, tF_of k2.1.2.1.1, tF_of k2.1.2.1.2.2.2.2.2.1, chk_pos k2.2.1.1.1]
        have goM : ∀ N, MX Sh N (B + 833) (A, K, W, Q, sp, fo, rd, la) rs buf → ∃ N1, MX Sh N1 (B + 833) (sA A j 3 0, K, W, Q, sp, fo, rd, la) (kpR rs (A, K, W, Q, sp, fo, rd, la)) buf ∧ FM (B + 833) N N1 ∧ N1.1 (B + 833) 5 = 0 ∧ fX7_close n Sh N (B + 833) (nI j) = if A j 4 = (-1) then fX7_close_101 n Sh (B + 833) (nI j) N1 else (fX7_mayFocus n Sh N1 (B + 833) (A j 4)).bind fun r8 => if r8 = 0 then fX7_close_101 n Sh (B + 833) (nI j) N1 else (fX7_focuses n Sh N1 (B + 833) (A j 4)).bind fun r9 => fX7_close_101 n Sh (B + 833) (nI j) r9 := by
          intro N hN
          have h5 := hN.c5 0
          obtain ⟨N1, e1, k1, f1, c1⟩ := m_keep (n := n) h5 hI.wl hI.wls hn
          have ep1 : fX7_put n Sh N1 (B + 833) (nI j) 10 0 = some (uI N1 (B + 833 + 1) (30 * j + 10) 0) := m_put k1.1 hj.1 (w := 10) (by decide) _
          have L1 : ML Sh (uI N1 (B + 833 + 1) (30 * j + 10) 0).2.1 (B + 833) := k1.1
          have v1 : fX7_of n Sh (uI N1 (B + 833 + 1) (30 * j + 10) 0) (B + 833) (nI j) 11 = some (A j 4) := (m_of L1 hj.1 (w := 11) (by decide)).trans (by
            rw [uI_row (by omega), ((k1.mp j hj.1).2 hj).2.2.2.2.2.2.1, if_neg c3])
          have ep2 : fX7_put n Sh (uI N1 (B + 833 + 1) (30 * j + 10) 0) (B + 833) (nI j) 11 (-1) = some (uI (uI N1 (B + 833 + 1) (30 * j + 10) 0) (B + 833 + 1) (30 * j + 11) (-1)) := m_put L1 hj.1 (w := 11) (by decide) _
          have p2 : PS (B + 833) (fun i => i < 720) N1 (uI (uI N1 (B + 833 + 1) (30 * j + 10) 0) (B + 833 + 1) (30 * j + 11) (-1)) := (PS.u (by omega)).tr (PS.u (by omega))
          have hP2 := k1.mp.p10 hS.2.1.wl (a := j) 0 (A j 4) (pg' := (uI (uI N1 (B + 833 + 1) (30 * j + 10) 0) (B + 833 + 1) (30 * j + 11) (-1)).1 (B + 833 + 1)) (fun i hi h10 h11 => by rw [uI_row h11, uI_row h10]) (fun _ => by rw [uI_row (by omega), uI_same]) (fun _ => by rw [uI_same]; exact (if_pos rfl).symm)
          have eA : sA (sA A j 3 0) j 4 (A j 4) = sA A j 3 0 := by
            have := sA_self (A := sA A j 3 0) (j := j) (k := 4)
            rw [sA_k (by decide)] at this
            exact this
          rw [eA] at hP2
          obtain ⟨k2, f2, c2⟩ := m_tree k1 p2 hP2
          refine ⟨_, k2, ((FM.u (by omega)).tr f1).tr f2, by rw [c2, c1]; exact uI_same, ?_⟩
          unfold fX7_close fX7_close_43
          rw [bind_of (m_isNode hN.1 hN.mp _), i0 ca, bind_of (mo3 hN.1 hN.mp hj), if_pos c6, bind_of (mo10 hN.1 hN.mp hj), if_neg c3, pI_of hN.1.1, tI_of, uI_same, if_pos rfl, bind_of e1, bind_of ep1, bind_of v1, bind_of ep2]
        by_cases cP : ∃ b, A j 4 = nI b ∧ live (sA A j 3 0) b ∧ admP (sA A j 3 0) b
        · obtain ⟨b, eb, hbl, hba⟩ := id cP
          refine ⟨0, nI b, (sA A j 3 0, K, W, gfQ (sA A j 3 0) K W Q b, sp, nI b, rd, la), kpR rs (A, K, W, Q, sp, fo, rd, la), buf, fun M hM => ?_, fun N hN => ?_, ⟨((hS2.queue (gf_ok hS2.2.2.2.1 hbl)).foc (Or.inr ⟨b, hbl, rfl⟩)).up, hI.keep⟩⟩
          · obtain ⟨M1, k1, f1, e1⟩ := goX M hM
            obtain ⟨M2, e2, k2, f2⟩ := x_give (n := n) k1 hS2.1 hS2.2.1 hn hbl
            refine Or.inr ⟨M2, ?_, rfl, k2, f1.tr f2⟩
            dsimp only
            rw [e1, bind_of (c_admits k1.rng k1.ct hS2.1 hS2.2.2.1 (by omega) hb4), i0 cP, eb, bind_of e2]
            unfold fX6_close_79
            rw [tF_of k2.1.2.1.2.1, chk_pos k2.rng.1, bind_of (x_foc k2 hS2.1 hS2.2.2.1 hn (Or.inr ⟨b, hbl, rfl⟩)), focV_adm hbl hba]
          · obtain ⟨N1, k1, f1, c1, e1⟩ := goM N hN
            obtain ⟨N2, e2, k2, f2, c2⟩ := m_give (n := n) k1 hS2.1 hS2.2.1 hn hbl
            refine ⟨nI b, N2, ?_, by rw [c2]; exact c1, fun _ => rfl, k2, f1.tr f2⟩
            dsimp only
            rw [e1, eb, if_neg (nI_ne_neg hbl.lt), bind_of (m_mayFocus k1.1 k1.mp hS2.1 hS2.2.2.1 (by omega) hbl), i0 hba, bind_of e2]
            unfold fX7_close_101
            rw [bind_of (m_foc k2 hS2.1 hS2.2.2.1 hn (Or.inr ⟨b, hbl, rfl⟩)), focV_adm hbl hba]
        · refine ⟨0, focV (sA A j 3 0) fo, (sA A j 3 0, K, W, Q, sp, fo, rd, la), kpR rs (A, K, W, Q, sp, fo, rd, la), buf, fun M hM => ?_, fun N hN => ?_, ⟨hS2.up, hI.keep⟩⟩
          · obtain ⟨M1, k1, f1, e1⟩ := goX M hM
            refine Or.inr ⟨M1, ?_, rfl, k1, f1⟩
            dsimp only
            rw [e1, bind_of (c_admits k1.rng k1.ct hS2.1 hS2.2.2.1 (by omega) hb4), i0n cP]
            unfold fX6_close_79
            rw [tF_of k1.1.2.1.2.1, chk_pos k1.rng.1, bind_of (x_foc k1 hS2.1 hS2.2.2.1 hn hS2.2.2.2.2.1)]
          · obtain ⟨N1, k1, f1, c1, e1⟩ := goM N hN
            refine ⟨focV (sA A j 3 0) fo, N1, ?_, c1, fun _ => rfl, k1, f1⟩
            have h101 : fX7_close_101 n Sh (B + 833) (nI j) N1 = some (focV (sA A j 3 0) fo, N1) := by
              unfold fX7_close_101
              rw [bind_of (m_foc k1 hS2.1 hS2.2.2.1 hn hS2.2.2.2.2.1)]
            dsimp only
            rw [e1]
            rcases hb4 with e | ⟨b, hbl, e⟩
            · rw [if_pos e]; exact h101
            · rw [e, if_neg (nI_ne_neg hbl.lt), bind_of (m_mayFocus k1.1 k1.mp hS2.1 hS2.2.2.1 (by omega) hbl), i0n (fun y => cP ⟨b, e, hbl, y⟩)]
              exact h101
    · refine ⟨2, 0, (A, K, W, Q, sp, fo, rd, la), rs, buf, fun M hM => ?_, fun N hN => ?_, hI.up⟩
      · dsimp only
        unfold fX6_close
        rw [x_dlg hM hj, if_neg c6, xb0]
        exact out_err (by decide) (fun _ => rfl) ⟨hM, Ag.rf⟩
      · dsimp only
        unfold fX7_close fX7_close_43
        rw [bind_of (m_isNode hN.1 hN.mp _), i0 ca, bind_of (mo3 hN.1 hN.mp hj), if_neg c6, pI_of hN.1.1, tI_of, uI_same, if_neg (by decide)]
        exact m_err (by decide) hN
  · refine ⟨1, 0, (A, K, W, Q, sp, fo, rd, la), rs, buf, fun M hM => ?_, fun N hN => ?_, hI.up⟩
    · dsimp only
      unfold fX6_close
      rw [x_dlg0 hM ca, xb0]
      exact out_err (by decide) (fun _ => rfl) ⟨hM, Ag.rf⟩
    · dsimp only
      unfold fX7_close fX7_close_43
      rw [bind_of (m_isNode hN.1 hN.mp _), i0n ca, pI_of hN.1.1, tI_of, uI_same, if_neg (by decide)]
      exact m_err (by decide) hN
end OPS6
