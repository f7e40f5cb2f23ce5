/-! ===== LEVEL 2: move, settings, words, labellers ===== -/
def okS (s : Nat) (d : Int32) : Prop := if s = 2 then (¬ d < -1 ∧ d ≤ 9) else if s = 3 then (¬ d < 0 ∧ d ≤ 3) else (¬ d < 0 ∧ d ≤ 1)
section OPS3
variable {Sh : Sp} {M M' N N' : Mm} {B μ c n : Nat} {rs : List Sc} {buf : List Int32} {A A' : At} {K K' : Kt} {W W' : Wt} {Q Q' : List QI} {sp : List Int32} {fo rd la : Int32}
theorem op_move {z : Sc} (hI : SIall c z rs) (hn : 20000 < n) (a b d : Int32) : OP Sh B c z rs buf (fun M => fX6_move n Sh M B a b d) (fun N => fX7_move n Sh N (B + 833) a b d) [("java/lang/IndexOutOfBoundsException", 1), ("java/lang/IllegalStateException", 2), ("java/lang/IllegalArgumentException", 3)] := by
  obtain ⟨A, K, W, Q, sp, fo, rd, la⟩ := z
  have hS : SI c A K W Q fo rd la := hI.1
  have hW := hS.1
  by_cases ca : isN A a
  · by_cases cb : isN A b
    · obtain ⟨j, hj, rfl⟩ := id ca
      obtain ⟨p, hp, rfl⟩ := id cb
      have hlen := kids_len hW hp
      have enc : (nI p = nI j) = (p = j) := eq_nI hp.lt hj.lt
      by_cases bad : j = 0 ∨ p = j ∨ j ∈ chain A (A p 1)
      · refine ⟨2, 0, (A, K, W, Q, sp, fo, rd, la), rs, buf, fun M hM => ?_, fun N hN => ?_, hI.up⟩
        · dsimp only
          unfold fX6_move fX6_move_38
          rw [x_reqA hM, cif_pos ca, xb1, x_reqA hM, cif_pos cb, xb1, tF_of hM.1.2.1.1, gF_of hM.2.1.1.1 hM.2.1.1.2.1]
          by_cases b1 : j = 0
          · rw [if_pos (show nI j = 0 by rw [b1]; rfl)]
            exact out_err (by decide) (fun _ => rfl) ⟨hM, Ag.rf⟩
          · rw [if_neg (show ¬ nI j = 0 from fun y => b1 (nI_inj (b := 0) hj.lt (by decide) y))]
            by_cases b2 : p = j
            · rw [if_pos (by rw [b2])]
              exact out_err (by decide) (fun _ => rfl) ⟨hM, Ag.rf⟩
            · have b3 := (bad.resolve_left b1).resolve_left b2
              rw [if_neg (by rw [enc]; exact b2), chk_pos hM.ct.1.1, bind_of (c_liesBelow hM.ct hW (by omega) (Or.inr ⟨p, hp, rfl⟩) hj.lt), rd_nI hp.1, i0 b3]
              exact out_err (by decide) (fun _ => rfl) ⟨hM, Ag.rf⟩
        · dsimp only
          unfold fX7_move fX7_move_22 fX7_move_52
          have h5 := hN.c5 0
          rw [bind_of (m_isNode hN.1 hN.mp _), i0 ca, bind_of (m_isNode hN.1 hN.mp _), i0 cb, pI_of hN.1.1, tI_of, uI_same, if_pos rfl]
          have fin : OutM (qI (uI N (B + 833) 5 0) (B + 833) 5 2 fun M7 => some (0, M7)) (B + 833) 2 0 (fun N' => MX Sh N' (B + 833) (A, K, W, Q, sp, fo, rd, la) rs buf ∧ FM (B + 833) N N') := by
            rw [qI_of]
            exact ⟨0, _, rfl, uI_same, fun _ => rfl, h5.c5 2, (FM.u (by omega)).tr (FM.u (by omega))⟩
          by_cases b1 : j = 0
          · rw [if_pos (show nI j = 0 by rw [b1]; rfl)]
            exact fin
          · rw [if_neg (show ¬ nI j = 0 from fun y => b1 (nI_inj (b := 0) hj.lt (by decide) y))]
            by_cases b2 : p = j
            · rw [if_pos (by rw [b2])]
              exact fin
            · have b3 := (bad.resolve_left b1).resolve_left b2
              rw [if_neg (by rw [enc]; exact b2), bind_of (m_isBelow h5.1 h5.mp hW (by omega) hp hj.1), i0 b3]
              exact fin
      · have b1 : j ≠ 0 := fun y => bad (Or.inl y)
        have b2 : p ≠ j := fun y => bad (Or.inr (Or.inl y))
        have b3 : j ∉ chain A (A p 1) := fun y => bad (Or.inr (Or.inr y))
        have n0 : ¬ nI j = 0 := fun y => b1 (nI_inj (b := 0) hj.lt (by decide) y)
        obtain ⟨q, hq, eq, hjq⟩ := hW.2.1 j hj b1
        have hjl := hj.1
        have nq := hW.2.2.2.1 q hq
        -- the places
        have hlim : ∃ lim, lim ≤ 24 ∧ ((q = p ∧ lim + 1 = (K p).length) ∨ (q ≠ p ∧ lim = (K p).length)) := by
          by_cases e : q = p
          · have := (List.getElem?_eq_some_iff.mp (get_idx hjq)).1
            rw [e] at this
            exact ⟨(K p).length - 1, by omega, Or.inl ⟨e, by omega⟩⟩
          · exact ⟨(K p).length, by omega, Or.inr ⟨e, rfl⟩⟩
        obtain ⟨lim, hlim24, hlim⟩ := hlim
        have epar : (A j 1 = nI p) = (q = p) := by rw [eq]; exact eq_nI hq.lt hp.lt
        have goX : ∀ M, CX Sh M B (A, K, W, Q, sp, fo, rd, la) rs buf → fX6_move n Sh M B (nI j) (nI p) d = fX6_move_79 n Sh B (nI j) (nI p) d M (B + 1 + 1) (nI q) (nI lim) := by
          intro M hM
          unfold fX6_move
          rw [x_reqA hM, cif_pos ca, xb1, x_reqA hM, cif_pos cb, xb1, tF_of hM.1.2.1.1, gF_of hM.2.1.1.1 hM.2.1.1.2.1, if_neg n0, if_neg (by rw [enc]; exact b2), chk_pos hM.ct.1.1, bind_of (c_liesBelow hM.ct hW (by omega) (Or.inr ⟨p, hp, rfl⟩) hj.lt), rd_nI hp.1, i0n b3, chk_pos hM.ct.1.1, bind_of (c_parentOf hM.ct _), rd_nI hj.1]
          simp only [epar]
          rcases hlim with ⟨e1, e2⟩ | ⟨e1, e2⟩
          · rw [if_pos e1, chk_pos hM.ct.1.1, bind_of (c_kidCount hM.ct hp.1), nI_sub1 (by omega), eq, show (K p).length - 1 = lim from by omega]
          · rw [if_neg e1, chk_pos hM.ct.1.1, bind_of (c_kidCount hM.ct hp.1), eq, e2]
        have goM : ∀ N, MX Sh N (B + 833) (A, K, W, Q, sp, fo, rd, la) rs buf → ∃ t0 t1, fX7_move n Sh N (B + 833) (nI j) (nI p) d = fX7_move_79 n Sh (B + 833) (nI j) (nI p) d (uI N (B + 833) 5 0) t0 t1 ∧ t0 - t1 = nI lim := by
          intro N hN
          have h5 := hN.c5 0
          unfold fX7_move fX7_move_22
          rw [bind_of (m_isNode hN.1 hN.mp _), i0 ca, bind_of (m_isNode hN.1 hN.mp _), i0 cb, pI_of hN.1.1, tI_of, uI_same, if_pos rfl, if_neg n0, if_neg (by rw [enc]; exact b2), bind_of (m_isBelow h5.1 h5.mp hW (by omega) hp hj.1), i0n b3, bind_of (m_childMany h5.1 h5.mp hW (by omega) hp), bind_of (mo1 h5.1 h5.mp hj)]
          simp only [epar]
          rcases hlim with ⟨e1, e2⟩ | ⟨e1, e2⟩
          · rw [if_pos e1]
            exact ⟨_, _, rfl, by rw [nI_sub1 (by omega), show (K p).length - 1 = lim from by omega]⟩
          · rw [if_neg e1]
            exact ⟨_, _, rfl, by rw [Int32.sub_zero, e2]⟩
        by_cases cd : upto (lim + 1) d
        · obtain ⟨pos, hpos, rfl⟩ := id cd
          have dm : ∀ i x, live A i → (x ∈ sK K q ((K q).eraseIdx ((K q).idxOf j)) i ↔ x ≠ j ∧ x ∈ K i) := fun i x hi => by
            by_cases y : i = q
            · subst y; rw [sK_s]; exact del_mem nq hjq
            · rw [sK_i y]
              exact ⟨fun w => ⟨fun u => y (by subst u; exact nI_inj hi.lt hq.lt ((hW.2.2.1 i hi x w).2.symm.trans eq)), w⟩, fun w => w.2⟩
          have dnd : (sK K q ((K q).eraseIdx ((K q).idxOf j)) p).Nodup := by
            by_cases y : p = q
            · rw [y, sK_s]; exact del_nodup nq
            · rw [sK_i y]; exact hW.2.2.2.1 p hp
          have dlen : (sK K q ((K q).eraseIdx ((K q).idxOf j)) p).length = lim := by
            rcases hlim with ⟨e1, e2⟩ | ⟨e1, e2⟩
            · rw [e1, sK_s]
              have := del_len hjq
              rw [e1] at this
              omega
            · rw [sK_i (fun y => e1 y.symm), e2]
          have djn : j ∉ sK K q ((K q).eraseIdx ((K q).idxOf j)) p := fun y => ((dm p j hp).mp y).1 rfl
          have hlt : lim < 24 := by
            rcases hlim with ⟨e1, e2⟩ | ⟨e1, e2⟩
            · omega
            · rw [e2]
              refine kids_lt hW hp hjl (fun y => e1 ?_)
              exact nI_inj hq.lt hp.lt (eq.symm.trans (hW.2.2.1 p hp j y).2)
          have hll : ∀ i, live (sA A j 1 (-1)) i ↔ live A i := fun i => live_sA (by decide)
          refine ⟨0, nI q, (sA (sA A j 1 (-1)) j 1 (nI p), sK (sK K q ((K q).eraseIdx ((K q).idxOf j))) p (ins (sK K q ((K q).eraseIdx ((K q).idxOf j)) p) pos j), W, Q, sp, fo, rd, la), kpR rs (A, K, W, Q, sp, fo, rd, la), buf, fun M hM => ?_, fun N hN => ?_, ⟨(SI.move hS hj b1 hq eq hp b2 b3).up, hI.keep⟩⟩
          · obtain ⟨M1, e1, k1, f1⟩ := x_keep (n := n) hM (by omega)
            obtain ⟨M2, e2, t2, f2⟩ := c_detach (n := n) k1.ct (by omega) hjl eq hq hjq nq (fun x hx => (hW.2.2.1 q hq x hx).1.1)
            obtain ⟨k2, g2⟩ := x_tree k1 f2 t2
            obtain ⟨M3, e3, t3, f3⟩ := c_attach (n := n) k2.ct (by omega) (pos := pos) ((hll j).mpr hj) ((hll p).mpr hp) (by rw [dlen]; omega) (by rw [dlen]; exact hlt)
            obtain ⟨k3, g3⟩ := x_tree k2 f3 t3
            refine Or.inr ⟨M3, ?_, rfl, k3, (f1.tr g2).tr g3⟩
            dsimp only
            rw [goX M hM]
            unfold fX6_move_79
            rw [if_neg (nI_pos (by omega)), if_pos ((nI_leI (by omega) (by omega)).mpr (by omega)), bind_of e1, chk_pos hM.ct.1.1, bind_of e2, chk_pos hM.ct.1.1, bind_of e3]
          · obtain ⟨t0, t1, e0, et⟩ := goM N hN
            have h5 := hN.c5 0
            obtain ⟨N1, e1, k1, f1, c1⟩ := m_keep (n := n) h5 hI.wl hI.wls hn
            obtain ⟨N2, e2, r2, p2⟩ := m_detach (n := n) k1.1 k1.mp hW hS.2.1.wl (by omega) hj hq eq
            have L2 := p2.ml k1.1
            have hwl : WL (sA A j 1 (-1)) W := fun i hi => hS.2.1.wl i ((hll i).mp hi)
            obtain ⟨N3, e3, r3, p3⟩ := m_attach (n := n) L2 r2 hwl (by omega) ((hll j).mpr hj) ((hll p).mpr hp) (pos := pos) (by rw [dlen]; omega) (by rw [dlen]; omega) dnd djn (fun i hi ij => by
              have hi' := (hll i).mp hi
              rw [sA_i ij]
              rcases hW.par hi' with y | ⟨u, hu, y⟩
              · exact Or.inl y
              · exact Or.inr ⟨u, hu.1, y, (dm u i hu).mpr ⟨ij, (hW.kid hi' hu.1 y).2⟩⟩)
            obtain ⟨k3, f3, c3⟩ := m_tree k1 (p2.tr p3) r3
            refine ⟨_, N3, ?_, by rw [c3, c1]; exact uI_same, fun _ => rfl, k3, ((FM.u (by omega)).tr f1).tr f3⟩
            dsimp only
            rw [e0]
            unfold fX7_move_79
            rw [et, bind_of (m_upto (by omega) _), i0 cd, bind_of e1, bind_of (mo1 k1.1 k1.mp hj), eq, bind_of e2, bind_of e3]
        · refine ⟨3, 0, (A, K, W, Q, sp, fo, rd, la), rs, buf, fun M hM => ?_, fun N hN => ?_, hI.up⟩
          · dsimp only
            rw [goX M hM]
            unfold fX6_move_79 fX6_move_91
            by_cases d0 : d < 0
            · rw [if_pos d0]
              exact out_err (by decide) (fun _ => rfl) ⟨hM, Ag.rf⟩
            · obtain ⟨x, hx, rfl⟩ := nI_of d0
              rw [if_neg d0, if_neg (fun y => cd ⟨x, by have := (nI_leI hx (by omega)).mp y; omega, rfl⟩)]
              exact out_err (by decide) (fun _ => rfl) ⟨hM, Ag.rf⟩
          · dsimp only
            obtain ⟨t0, t1, e0, et⟩ := goM N hN
            rw [e0]
            unfold fX7_move_79
            rw [et, bind_of (m_upto (by omega) _), i0n cd, qI_of]
            exact ⟨0, _, rfl, uI_same, fun _ => rfl, (hN.c5 0).c5 3, (FM.u (by omega)).tr (FM.u (by omega))⟩
    · refine ⟨1, 0, (A, K, W, Q, sp, fo, rd, la), rs, buf, fun M hM => ?_, fun N hN => ?_, hI.up⟩
      · dsimp only
        unfold fX6_move
        rw [x_reqA hM, cif_pos ca, xb1, x_reqA hM, cif_neg cb, xb0]
        exact out_err (by decide) (fun _ => rfl) ⟨hM, Ag.rf⟩
      · dsimp only
        unfold fX7_move fX7_move_17 fX7_move_22
        rw [bind_of (m_isNode hN.1 hN.mp _), i0 ca, bind_of (m_isNode hN.1 hN.mp _), i0n cb, pI_of hN.1.1, tI_of, uI_same, if_neg (by decide)]
        exact m_err (by decide) hN
  · refine ⟨1, 0, (A, K, W, Q, sp, fo, rd, la), rs, buf, fun M hM => ?_, fun N hN => ?_, hI.up⟩
    · dsimp only
      unfold fX6_move
      rw [x_reqA hM, cif_neg ca, xb0]
      exact out_err (by decide) (fun _ => rfl) ⟨hM, Ag.rf⟩
    · dsimp only
      unfold fX7_move fX7_move_17 fX7_move_22
      rw [bind_of (m_isNode hN.1 hN.mp _), i0n ca, pI_of hN.1.1, tI_of, uI_same, if_neg (by decide)]
      exact m_err (by decide) hN
theorem s_range (s : Nat) (hs : s < 5) : ∃ lo hi, (∀ M, fX6_lowestValue n Sh M (nI s) = some lo) ∧ (∀ M, fX6_highestValue n Sh M (nI s) = some hi) ∧ ∀ d, okS s d ↔ (¬ d < lo ∧ d ≤ hi) := by
  unfold fX6_lowestValue fX6_highestValue okS
  rcases (by omega : s = 0 ∨ s = 1 ∨ s = 2 ∨ s = 3 ∨ s = 4) with e | e | e | e | e <;> subst e
  · exact ⟨0, 1, fun _ => if_neg (by decide), fun _ => by rw [if_neg (by decide), if_neg (by decide)], fun d => by rw [if_neg (by decide), if_neg (by decide)]⟩
  · exact ⟨0, 1, fun _ => if_neg (by decide), fun _ => by rw [if_neg (by decide), if_neg (by decide)], fun d => by rw [if_neg (by decide), if_neg (by decide)]⟩
  · exact ⟨-1, 9, fun _ => if_pos (by decide), fun _ => if_pos (by decide), fun d => by rw [if_pos rfl]⟩
  · exact ⟨0, 3, fun _ => if_neg (by decide), fun _ => by rw [if_neg (by decide), if_pos (by decide)], fun d => by rw [if_neg (by decide), if_pos rfl]⟩
  · exact ⟨0, 1, fun _ => if_neg (by decide), fun _ => by rw [if_neg (by decide), if_neg (by decide)], fun d => by rw [if_neg (by decide), if_neg (by decide)]⟩
theorem m_inI (M : Mm) (v lo hi : Int32) : fX7_in n Sh M v lo hi = some (bI (¬ v < lo ∧ v ≤ hi)) := by
  rw [m_in]
  by_cases c1 : v < lo
  · rw [if_pos c1, bI_neg (fun y => y.1 c1)]
  · rw [if_neg c1]
    by_cases c2 : v ≤ hi
    · rw [if_pos c2, bI_pos ⟨c1, c2⟩]
    · rw [if_neg c2, bI_neg (fun y => c2 y.2)]
theorem m_isSet (M : Mm) (b d : Int32) : fX7_isSetting n Sh M b d = some (bI (∃ s, s < 5 ∧ b = nI s ∧ okS s d)) := by
  unfold fX7_isSetting
  by_cases b2 : b = 2
  · rw [if_pos b2, bind_of (m_inI M d (-1) 9), chk_pos (bI_bit _)]
    congr 1
    refine bI_congr ⟨fun y => ⟨2, by decide, b2, by unfold okS; rw [if_pos rfl]; exact y⟩, fun ⟨s, hs, e, y⟩ => ?_⟩
    have : s = 2 := nI_inj (by omega) (by decide) (e.symm.trans b2)
    subst this
    unfold okS at y
    rw [if_pos rfl] at y
    exact y
  · rw [if_neg b2]
    by_cases b3 : b = 3
    · rw [if_pos b3, bind_of (m_inI M d 0 3), chk_pos (bI_bit _)]
      congr 1
      refine bI_congr ⟨fun y => ⟨3, by decide, b3, by unfold okS; rw [if_neg (by decide), if_pos rfl]; exact y⟩, fun ⟨s, hs, e, y⟩ => ?_⟩
      have : s = 3 := nI_inj (by omega) (by decide) (e.symm.trans b3)
      subst this
      unfold okS at y
      rw [if_neg (by decide), if_pos rfl] at y
      exact y
    · rw [if_neg b3, show fX7_in n Sh M b 0 4 = some (bI (upto 5 b)) from m_upto (k := 4) (by decide) b, bindS]
      by_cases cb : upto 5 b
      · obtain ⟨s, hs, rfl⟩ := id cb
        have s2 : s ≠ 2 := fun y => b2 (by rw [y]; rfl)
        have s3 : s ≠ 3 := fun y => b3 (by rw [y]; rfl)
        have ho : okS s d ↔ (¬ d < 0 ∧ d ≤ 1) := by unfold okS; rw [if_neg s2, if_neg s3]
        rw [i0 cb, bind_of (m_inI M d 0 1)]
        by_cases c1 : ¬ d < 0 ∧ d ≤ 1
        · rw [i0 c1, bI_pos ⟨s, hs, rfl, ho.mpr c1⟩]
        · rw [i0n c1, bI_neg]
          rintro ⟨s', hs', e, y⟩
          have := nI_inj (by omega) (by omega) e
          subst this
          exact c1 (ho.mp y)
      · rw [i0n cb, bI_neg]
        rintro ⟨s', hs', e, y⟩
        exact cb ⟨s', hs', e⟩
theorem op_set {z : Sc} (hI : SIall c z rs) (hn : 20000 < n) (a b d : Int32) : OP Sh B c z rs buf (fun M => fX6_set n Sh M B a b d) (fun N => fX7_set n Sh N (B + 833) a b d) [("java/lang/IndexOutOfBoundsException", 1), ("java/lang/IllegalArgumentException", 2), ("java/lang/IllegalStateException", 3)] := by
  obtain ⟨A, K, W, Q, sp, fo, rd, la⟩ := z
  have hS : SI c A K W Q fo rd la := hI.1
  have hW := hS.1
  by_cases ca : isN A a
  · obtain ⟨j, hj, rfl⟩ := id ca
    by_cases cs : ∃ s, s < 5 ∧ b = nI s ∧ okS s d
    · obtain ⟨s, hs, rfl, ok⟩ := id cs
      obtain ⟨lo, hi, elo, ehi, hok⟩ := s_range (n := n) (Sh := Sh) s hs
      obtain ⟨o1, o2⟩ := (hok d).mp ok
      have s0 : (nI s = 0) = (s = 0) := nI_eq0 (by omega)
      have j0 : (nI j = 0) = (j = 0) := nI_eq0 hj.lt
      have goX : ∀ M, CX Sh M B (A, K, W, Q, sp, fo, rd, la) rs buf → fX6_set n Sh M B (nI j) (nI s) d = if j = 0 then (if s = 0 then some (.inl "java/lang/IllegalStateException", M) else fX6_set_54 n Sh B (nI j) (nI s) d M) else fX6_set_54 n Sh B (nI j) (nI s) d M := by
        intro M hM
        unfold fX6_set
        rw [x_reqA hM, cif_pos ca, xb1, show (5 : Int32) = nI 5 from rfl, x_kind (by decide), cif_pos ⟨s, hs, rfl⟩, xb1, bind_of (elo M), if_neg o1, bind_of (ehi M), if_pos o2]
        simp only [s0, j0]
      have goM : ∀ N, MX Sh N (B + 833) (A, K, W, Q, sp, fo, rd, la) rs buf → fX7_set n Sh N (B + 833) (nI j) (nI s) d = if j = 0 then (if s = 0 then fX7_set_38 n Sh (B + 833) (nI j) (nI s) d N (B + 833) 3 else fX7_set_38 n Sh (B + 833) (nI j) (nI s) d N (B + 833) 0) else fX7_set_38 n Sh (B + 833) (nI j) (nI s) d N (B + 833) 0 := by
        intro N hN
        unfold fX7_set fX7_set_37
        rw [bind_of (m_isNode hN.1 hN.mp _), i0 ca, bind_of (m_isSet N _ _), i0 cs]
        simp only [s0, j0]
      by_cases bad : j = 0 ∧ s = 0
      · refine ⟨3, 0, (A, K, W, Q, sp, fo, rd, la), rs, buf, fun M hM => ?_, fun N hN => ?_, hI.up⟩
        · dsimp only
          rw [goX M hM, if_pos bad.1, if_pos bad.2]
          exact out_err (by decide) (fun _ => rfl) ⟨hM, Ag.rf⟩
        · dsimp only
          rw [goM N hN, if_pos bad.1, if_pos bad.2]
          unfold fX7_set_38
          rw [pI_of hN.1.1, tI_of, uI_same, if_neg (by decide)]
          exact m_err (by decide) hN
      · have hS' := SI.set hS hj (s := 5 + s) (by omega) d
        have hj' : live (sA A j (5 + s) d) j := (live_sA (by omega)).mpr hj
        -- is it announced?
        by_cases an : s = 0 ∧ A j (5 + s) = 1 ∧ d = 0
        · refine ⟨0, A j (5 + s), (sA A j (5 + s) d, K, W, acQ (sA A j (5 + s) d) K W Q j, sp, fo, rd, la), kpR rs (A, K, W, Q, sp, fo, rd, la), buf, fun M hM => ?_, fun N hN => ?_, ⟨(hS'.queue (ac_ok hS'.1 hS'.2.2.2.1 hj')).up, hI.keep⟩⟩
          · obtain ⟨M1, e1, k1, f1⟩ := x_keep (n := n) hM (by omega)
            obtain ⟨M2, e2, t2, f2⟩ := c_give (n := n) k1.ct hj hs d
            obtain ⟨k2, g2⟩ := x_tree k1 f2 t2
            obtain ⟨M3, e3, k3, f3⟩ := x_ann (n := n) k2 hS'.1 hS'.2.1 hn hj'
            refine Or.inr ⟨M3, ?_, rfl, k3, (f1.tr g2).tr f3⟩
            dsimp only
            rw [goX M hM, show (if j = 0 then (if s = 0 then some (Sum.inl "java/lang/IllegalStateException", M) else fX6_set_54 n Sh B (nI j) (nI s) d M) else fX6_set_54 n Sh B (nI j) (nI s) d M) = fX6_set_54 n Sh B (nI j) (nI s) d M from by
              by_cases y : j = 0
              · rw [if_pos y, if_neg (fun w => bad ⟨y, w⟩)]
              · rw [if_neg y]]
            unfold fX6_set_54
            rw [bind_of e1, tF_of k1.1.2.1.1, gF_of k1.2.1.1.1 k1.2.1.1.2.1, chk_pos k1.ct.1.1, bind_of (c_setting k1.ct _ hs), rd_nI hj.1, tF_of k1.1.2.1.1, gF_of k1.2.1.1.1 k1.2.1.1.2.1, chk_pos k1.ct.1.1, bind_of e2]
            simp only [s0]
            rw [if_pos an.1, if_pos an.2.1, if_pos an.2.2, tF_of k2.1.2.1.1, tF_of k2.1.2.1.2.2.2.2.2.1, chk_pos k2.2.1.1.1, bind_of e3]
          · have h5 := hN.c5 0
            obtain ⟨N1, e1, k1, f1, c1⟩ := m_keep (n := n) h5 hI.wl hI.wls hn
            have ep : fX7_put n Sh N1 (B + 833) (nI j) (5 + nI s) d = some (uI N1 (B + 833 + 1) (30 * j + (5 + s)) d) := by
              rw [show (5 : Int32) + nI s = nI (5 + s) from nI_addm 5 s]
              exact m_put k1.1 hj.1 (by omega) d
            have p2 : PS (B + 833) (fun i => i < 720) N1 (uI N1 (B + 833 + 1) (30 * j + (5 + s)) d) := PS.u (by have := hj.1; omega)
            obtain ⟨k2, f2, c2⟩ := m_tree k1 p2 (k1.mp.p5 hS.2.1.wl hs d (fun i _ h => uI_row h) (fun _ => uI_same))
            obtain ⟨N3, e3, k3, f3, c3⟩ := m_ann (n := n) k2 hS'.1 hS'.2.1 hS'.2.2.2.1 hn hj'
            refine ⟨_, N3, ?_, by rw [c3, c2, c1]; exact uI_same, fun _ => rfl, k3, (((FM.u (by omega)).tr f1).tr f2).tr f3⟩
            dsimp only
            rw [goM N hN, show (if j = 0 then (if s = 0 then fX7_set_38 n Sh (B + 833) (nI j) (nI s) d N (B + 833) 3 else fX7_set_38 n Sh (B + 833) (nI j) (nI s) d N (B + 833) 0) else fX7_set_38 n Sh (B + 833) (nI j) (nI s) d N (B + 833) 0) = fX7_set_38 n Sh (B + 833) (nI j) (nI s) d N (B + 833) 0 from by
              by_cases y : j = 0
              · rw [if_pos y, if_neg (fun w => bad ⟨y, w⟩)]
              · rw [if_neg y]]
            unfold fX7_set_38
            rw [pI_of hN.1.1, tI_of, uI_same, if_pos rfl, bind_of e1, show fX7_of n Sh N1 (B + 833) (nI j) (5 + nI s) = some (A j (5 + s)) from by rw [show (5 : Int32) + nI s = nI (5 + s) from nI_addm 5 s]; exact mos k1.1 k1.mp hj hs, bindS, bind_of ep]
            simp only [s0]
            rw [if_pos an.1, if_pos an.2.1, if_pos an.2.2, bind_of e3]
        · refine ⟨0, A j (5 + s), (sA A j (5 + s) d, K, W, Q, sp, fo, rd, la), kpR rs (A, K, W, Q, sp, fo, rd, la), buf, fun M hM => ?_, fun N hN => ?_, ⟨hS'.up, hI.keep⟩⟩
          · obtain ⟨M1, e1, k1, f1⟩ := x_keep (n := n) hM (by omega)
            obtain ⟨M2, e2, t2, f2⟩ := c_give (n := n) k1.ct hj hs d
            obtain ⟨k2, g2⟩ := x_tree k1 f2 t2
            refine Or.inr ⟨M2, ?_, rfl, k2, f1.tr g2⟩
            dsimp only
            rw [goX M hM, show (if j = 0 then (if s = 0 then some (Sum.inl "java/lang/IllegalStateException", M) else fX6_set_54 n Sh B (nI j) (nI s) d M) else fX6_set_54 n Sh B (nI j) (nI s) d M) = fX6_set_54 n Sh B (nI j) (nI s) d M from by
              by_cases y : j = 0
              · rw [if_pos y, if_neg (fun w => bad ⟨y, w⟩)]
              · rw [if_neg y]]
            unfold fX6_set_54
            rw [bind_of e1, tF_of k1.1.2.1.1, gF_of k1.2.1.1.1 k1.2.1.1.2.1, chk_pos k1.ct.1.1, bind_of (c_setting k1.ct _ hs), rd_nI hj.1, tF_of k1.1.2.1.1, gF_of k1.2.1.1.1 k1.2.1.1.2.1, chk_pos k1.ct.1.1, bind_of e2]
            simp only [s0]
            by_cases y1 : s = 0
            · rw [if_pos y1]
              by_cases y2 : A j (5 + s) = 1
              · rw [if_pos y2, if_neg (fun y3 => an ⟨y1, y2, y3⟩)]
              · rw [if_neg y2]
            · rw [if_neg y1]
          · have h5 := hN.c5 0
            obtain ⟨N1, e1, k1, f1, c1⟩ := m_keep (n := n) h5 hI.wl hI.wls hn
            have ep : fX7_put n Sh N1 (B + 833) (nI j) (5 + nI s) d = some (uI N1 (B + 833 + 1) (30 * j + (5 + s)) d) := by
              rw [show (5 : Int32) + nI s = nI (5 + s) from nI_addm 5 s]
              exact m_put k1.1 hj.1 (by omega) d
            have p2 : PS (B + 833) (fun i => i < 720) N1 (uI N1 (B + 833 + 1) (30 * j + (5 + s)) d) := PS.u (by have := hj.1; omega)
            obtain ⟨k2, f2, c2⟩ := m_tree k1 p2 (k1.mp.p5 hS.2.1.wl hs d (fun i _ h => uI_row h) (fun _ => uI_same))
            refine ⟨A j (5 + s), _, ?_, by rw [c2, c1]; exact uI_same, fun _ => rfl, k2, ((FM.u (by omega)).tr f1).tr f2⟩
            dsimp only
            rw [goM N hN, show (if j = 0 then (if s = 0 then fX7_set_38 n Sh (B + 833) (nI j) (nI s) d N (B + 833) 3 else fX7_set_38 n Sh (B + 833) (nI j) (nI s) d N (B + 833) 0) else fX7_set_38 n Sh (B + 833) (nI j) (nI s) d N (B + 833) 0) = fX7_set_38 n Sh (B + 833) (nI j) (nI s) d N (B + 833) 0 from by
              by_cases y : j = 0
              · rw [if_pos y, if_neg (fun w => bad ⟨y, w⟩)]
              · rw [if_neg y]]
            unfold fX7_set_38
            rw [pI_of hN.1.1, tI_of, uI_same, if_pos rfl, bind_of e1, show fX7_of n Sh N1 (B + 833) (nI j) (5 + nI s) = some (A j (5 + s)) from by rw [show (5 : Int32) + nI s = nI (5 + s) from nI_addm 5 s]; exact mos k1.1 k1.mp hj hs, bindS, bind_of ep]
            simp only [s0]
            by_cases y1 : s = 0
            · rw [if_pos y1]
              by_cases y2 : A j (5 + s) = 1
              · rw [if_pos y2, if_neg (fun y3 => an ⟨y1, y2, y3⟩)]
              · rw [if_neg y2]
            · rw [if_neg y1]
    · refine ⟨2, 0, (A, K, W, Q, sp, fo, rd, la), rs, buf, fun M hM => ?_, fun N hN => ?_, hI.up⟩
      · dsimp only
        unfold fX6_set fX6_set_26
        rw [x_reqA hM, cif_pos ca, xb1, show fX6_requireKind n Sh M b 5 = some (cif (upto 5 b) (.inr ()) (.inl "java/lang/IllegalArgumentException")) from x_kind (k := 5) (by decide) b]
        by_cases cb : upto 5 b
        · obtain ⟨s, hs, rfl⟩ := id cb
          obtain ⟨lo, hi, elo, ehi, hok⟩ := s_range (n := n) (Sh := Sh) s hs
          rw [cif_pos cb, xb1, bind_of (elo M)]
          by_cases o1 : d < lo
          · rw [if_pos o1]
            exact out_err (by decide) (fun _ => rfl) ⟨hM, Ag.rf⟩
          · rw [if_neg o1, bind_of (ehi M), if_neg (fun o2 => cs ⟨s, hs, rfl, (hok d).mpr ⟨o1, o2⟩⟩)]
            exact out_err (by decide) (fun _ => rfl) ⟨hM, Ag.rf⟩
        · rw [cif_neg cb, xb0]
          exact out_err (by decide) (fun _ => rfl) ⟨hM, Ag.rf⟩
      · dsimp only
        unfold fX7_set fX7_set_38
        rw [bind_of (m_isNode hN.1 hN.mp _), i0 ca, bind_of (m_isSet N _ _), i0n cs, pI_of hN.1.1, tI_of, uI_same, if_neg (by decide)]
        exact m_err (by decide) hN
  · refine ⟨1, 0, (A, K, W, Q, sp, fo, rd, la), rs, buf, fun M hM => ?_, fun N hN => ?_, hI.up⟩
    · dsimp only
      unfold fX6_set
      rw [x_reqA hM, cif_neg ca, xb0]
      exact out_err (by decide) (fun _ => rfl) ⟨hM, Ag.rf⟩
    · dsimp only
      unfold fX7_set fX7_set_38
      rw [bind_of (m_isNode hN.1 hN.mp _), i0n ca, pI_of hN.1.1, tI_of, uI_same, if_neg (by decide)]
      exact m_err (by decide) hN
end OPS3
