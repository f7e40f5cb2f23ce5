/-! ===== LEVEL 2: the calls that ask ===== -/
section OPS1
variable {Sh : Sp} {B c n : Nat} {z : Sc} {rs : List Sc} {buf : List Int32}
theorem op_nodes (hI : SIall c z rs) (hn : 20000 < n) : OPV Sh B c z rs buf (fun M => (fX6_nodes n Sh M B).map fun v => (v, M)) (fun N => fX7_nodes n Sh N (B + 833)) := by
  have hW := hI.1.1
  refine ⟨mk (live z.1), z, rs, buf, fun M hM => ⟨M, ?_, hM, Ag.rf⟩, fun N hN => ⟨uI N (B + 833) 5 0, ?_, hN.c5 0, FM.u (by omega)⟩, hI.up⟩
  · have e := c_maskFrom (n := n) hM.tr' hW (by omega) (top := 0) (by decide)
    rw [below_root hW] at e
    try dsimp only
    unfold fX6_nodes
    rw [tF_of hM.1.2.1.1, gF_of hM.2.1.1.1 hM.2.1.1.2.1, chk_pos hM.tr'.1.1, show fX4_maskFrom n Sh M (B + 1 + 1) 0 = some (mk (live z.1)) from e]
    rfl
  · try dsimp only
    unfold fX7_nodes
    rw [qI_of]
    exact m_nodes9 (hN.c5 0).1 (hN.c5 0).2.1.1 (by omega)
theorem op_info (hI : SIall c z rs) (hn : 20000 < n) (a b : Int32) : OP Sh B c z rs buf (fun M => (fX6_info n Sh M B a b).map fun y => (y, M)) (fun N => fX7_info n Sh N (B + 833) a b) [("java/lang/IndexOutOfBoundsException", 1), ("java/lang/IllegalArgumentException", 2)] := by
  have hW := hI.1.1
  by_cases ca : isN z.1 a
  · by_cases cb : upto 15 b
    · obtain ⟨j, hj, rfl⟩ := id ca
      obtain ⟨q, hq, rfl⟩ := id cb
      obtain ⟨v, v1, v2⟩ := info_both (n := n) hW hI.1.2.2.1 (by omega) hj hq
      refine ⟨0, v, z, rs, buf, fun M hM => Or.inr ⟨M, ?_, rfl, hM, Ag.rf⟩, fun N hN => ⟨v, uI N (B + 833) 5 0, ?_, uI_same, fun _ => rfl, hN.c5 0, FM.u (by omega)⟩, hI.up⟩
      · show (fX6_info n Sh M B (nI j) (nI q)).map _ = _
        unfold fX6_info
        rw [x_req hM, cif_pos ca, xb1, show (15 : Int32) = nI 15 from rfl, x_kind (by decide), cif_pos cb, xb1, tF_of hM.1.2.1.1, gF_of hM.2.1.1.1 hM.2.1.1.2.1, chk_pos hM.tr'.1.1, bind_of (v1 _ _ hM.tr')]
        rfl
      · try dsimp only
        unfold fX7_info fX7_info_28
        rw [bind_of (m_isNode hN.1 hN.2.1.1 _), i0 ca, show (14 : Int32) = nI 14 from rfl, bind_of (m_upto (by decide) _), i0 cb, pI_of hN.1.1, tI_of, uI_same, if_pos rfl, bind_of (v2 _ _ (hN.c5 0).1 (hN.c5 0).2.1.1)]
    · refine ⟨2, 0, z, rs, buf, fun M hM => ?_, fun N hN => ?_, hI.up⟩
      · show OutX ((fX6_info n Sh M B a b).map _) _ _ _ _
        unfold fX6_info
        rw [x_req hM, cif_pos ca, xb1, show (15 : Int32) = nI 15 from rfl, x_kind (by decide), cif_neg cb, xb0]
        exact out_err (by decide) (fun _ => rfl) ⟨hM, Ag.rf⟩
      · show OutM (fX7_info n Sh N (B + 833) a b) _ _ _ _
        unfold fX7_info fX7_info_28
        rw [bind_of (m_isNode hN.1 hN.2.1.1 _), i0 ca, show (14 : Int32) = nI 14 from rfl, bind_of (m_upto (by decide) _), i0n cb, pI_of hN.1.1, tI_of, uI_same, if_neg (by decide)]
        exact m_err (by decide) hN
  · refine ⟨1, 0, z, rs, buf, fun M hM => ?_, fun N hN => ?_, hI.up⟩
    · show OutX ((fX6_info n Sh M B a b).map _) _ _ _ _
      unfold fX6_info
      rw [x_req hM, cif_neg ca, xb0]
      exact out_err (by decide) (fun _ => rfl) ⟨hM, Ag.rf⟩
    · show OutM (fX7_info n Sh N (B + 833) a b) _ _ _ _
      unfold fX7_info fX7_info_28
      rw [bind_of (m_isNode hN.1 hN.2.1.1 _), i0n ca, pI_of hN.1.1, tI_of, uI_same, if_neg (by decide)]
      exact m_err (by decide) hN
theorem op_child (hI : SIall c z rs) (hn : 20000 < n) (a b : Int32) : OP Sh B c z rs buf (fun M => (fX6_child n Sh M B a b).map fun y => (y, M)) (fun N => fX7_child n Sh N (B + 833) a b) [("java/lang/IndexOutOfBoundsException", 1)] := by
  have hW := hI.1.1
  by_cases ca : isN z.1 a
  · obtain ⟨j, hj, rfl⟩ := id ca
    refine ⟨0, kAt (z.2.1 j) b, z, rs, buf, fun M hM => Or.inr ⟨M, ?_, rfl, hM, Ag.rf⟩, fun N hN => ⟨_, uI N (B + 833) 5 0, ?_, uI_same, fun _ => rfl, hN.c5 0, FM.u (by omega)⟩, hI.up⟩
    · show (fX6_child n Sh M B (nI j) b).map _ = _
      unfold fX6_child
      rw [x_req hM, cif_pos ca, xb1, tF_of hM.1.2.1.1, gF_of hM.2.1.1.1 hM.2.1.1.2.1, chk_pos hM.tr'.1.1, bind_of (c_kidAt hM.tr' hj.1 b)]
      rfl
    · try dsimp only
      unfold fX7_child fX7_child_14
      rw [bind_of (m_isNode hN.1 hN.2.1.1 _), i0 ca, pI_of hN.1.1, tI_of, uI_same, if_pos rfl, bind_of (m_childAt (hN.c5 0).1 (hN.c5 0).2.1.1 hW (by omega) hj b)]
  · refine ⟨1, 0, z, rs, buf, fun M hM => ?_, fun N hN => ?_, hI.up⟩
    · show OutX ((fX6_child n Sh M B a b).map _) _ _ _ _
      unfold fX6_child
      rw [x_req hM, cif_neg ca, xb0]
      exact out_err (by decide) (fun _ => rfl) ⟨hM, Ag.rf⟩
    · show OutM (fX7_child n Sh N (B + 833) a b) _ _ _ _
      unfold fX7_child fX7_child_14
      rw [bind_of (m_isNode hN.1 hN.2.1.1 _), i0n ca, pI_of hN.1.1, tI_of, uI_same, if_neg (by decide)]
      exact m_err (by decide) hN
/-- words are laid into the scratch room -/
theorem x_collect {M : Mm} (hM : CX Sh M B z rs buf) (hI : SIall c z rs) (hn : 20000 < n) {j q : Nat} (hj : live z.1 j) (hq : q < 6) : ∃ M', fX6_collectWords n Sh M B (nI j) (nI q) = some M' ∧ WR Sh M' (B + 145) 256 (jns [] (kindW z.1 z.2.1 z.2.2.1 j (nI q))) ∧ AgI (fun a => a = B + 145 ∨ a = B + 145 + 1) M M' := by
  have hW := hI.1.1
  have hA := hI.1.2.1
  have hle := kind_le hW hA hj (nI q)
  obtain ⟨l, hw⟩ := hM.2.2.2.2.2
  obtain ⟨M1, e1, r1, f1⟩ := w_empty (n := n) hw
  have f1' : AgI (fun a => a = B + 145 ∨ a = B + 145 + 1) M M1 := f1.mono (fun a z => Or.inl z)
  have t1 : CT Sh M1 (B + 1 + 1) z.1 z.2.1 z.2.2.1 := hM.tr'.ag f1' (fun a x y => by omega)
  have x0 : M1.2.1 B 0 = some (B + 1) := by rw [f1.1]; exact hM.1.2.1.1
  have x6 : M1.2.1 B 6 = some (B + 145) := by rw [f1.1]; exact hM.1.2.1.2.2.2.2.2.1
  have s0 : M1.2.1 (B + 1) 0 = some (B + 1 + 1) := by rw [f1.1]; exact hM.2.1.1.2.1
  have s3 := hM.2.1.1.1
  try dsimp only
  unfold fX6_collectWords
  rw [tF_of hM.1.2.1.2.2.2.2.2.1, chk_pos hw.1, bind_of e1]
  unfold kindW at hle ⊢
  have hcap : (256 : Nat) < 2 ^ 31 := by decide
  rcases (by omega : q = 0 ∨ q = 1 ∨ q = 2 ∨ q = 3 ∨ q = 4 ∨ q = 5) with e | e | e | e | e | e <;> subst e
  · rw [if_pos (by decide)] at hle ⊢
    rw [if_pos (by decide)]
    have wt := c_textW t1 hj.1
    have h24 := hj.1
    obtain ⟨M2, e2, r2, f2⟩ := w_join (n := n) r1 wt hcap (by decide) (by omega) (by omega) (by omega) (by have := wt.2.2.2.2.1; omega) (by rw [jns_one] at hle; omega)
    rw [tF_of x6, tF_of x0, gF_of s3 s0, chk_pos t1.1.1, bind_of (c_textOf t1 hj.1), chk_pos hw.1, bind_of e2]
    exact ⟨M2, rfl, r2, f1'.tr f2⟩
  · rw [if_neg (by decide), if_pos (by decide)] at hle ⊢
    rw [if_neg (by decide), if_pos (by decide)]
    have wt := c_labelW t1 hj.1
    have h24 := hj.1
    obtain ⟨M2, e2, r2, f2⟩ := w_join (n := n) r1 wt hcap (by decide) (by omega) (by omega) (by omega) (by have := wt.2.2.2.2.1; omega) (by rw [jns_one] at hle; omega)
    rw [tF_of x6, tF_of x0, gF_of s3 s0, chk_pos t1.1.1, bind_of (c_labelOf t1 hj.1), chk_pos hw.1, bind_of e2]
    exact ⟨M2, rfl, r2, f1'.tr f2⟩
  · rw [if_neg (by decide), if_neg (by decide), if_pos (by decide)] at hle ⊢
    rw [if_neg (by decide), if_neg (by decide), if_pos (by decide)]
    obtain ⟨M2, e2, r2, f2⟩ := c_name (n := n) hW hA (by omega) hcap (show B + 1 + 1 + 109 ≤ B + 145 ∨ B + 145 + 2 ≤ B + 1 + 1 by omega) t1 r1 hj (by omega)
    rw [tF_of x0, gF_of s3 s0, tF_of x6, chk_pos t1.1.1, bind_of e2]
    exact ⟨M2, rfl, r2, f1'.tr f2⟩
  · rw [if_neg (by decide), if_neg (by decide), if_neg (by decide), if_pos (by decide)] at hle ⊢
    rw [if_neg (by decide), if_neg (by decide), if_neg (by decide), if_pos (by decide)]
    obtain ⟨M2, e2, r2, f2⟩ := c_phrase (n := n) hW hA (by omega) hcap (show B + 1 + 1 + 109 ≤ B + 145 ∨ B + 145 + 2 ≤ B + 1 + 1 by omega) t1 r1 hj (by omega)
    rw [tF_of x0, gF_of s3 s0, tF_of x6, chk_pos t1.1.1, bind_of e2]
    exact ⟨M2, rfl, r2, f1'.tr f2⟩
  · rw [if_neg (by decide), if_neg (by decide), if_neg (by decide), if_neg (by decide), if_pos (by decide)] at hle ⊢
    rw [if_neg (by decide), if_neg (by decide), if_neg (by decide), if_neg (by decide), if_pos (by decide)]
    obtain ⟨M2, e2, r2, f2⟩ := c_joinContent (n := n) hW hA (by omega) hcap (show B + 1 + 1 + 109 ≤ B + 145 ∨ B + 145 + 2 ≤ B + 1 + 1 by omega) t1 r1 hj (by omega)
    rw [tF_of x0, gF_of s3 s0, tF_of x6, chk_pos t1.1.1, bind_of e2]
    exact ⟨M2, rfl, r2, f1'.tr f2⟩
  · rw [if_neg (by decide), if_neg (by decide), if_neg (by decide), if_neg (by decide), if_neg (by decide)] at hle ⊢
    rw [if_neg (by decide), if_neg (by decide), if_neg (by decide), if_neg (by decide), if_neg (by decide)]
    obtain ⟨M2, e2, r2, f2⟩ := c_joinPart (n := n) hW hA (by omega) hcap (show B + 1 + 1 + 109 ≤ B + 145 ∨ B + 145 + 2 ≤ B + 1 + 1 by omega) t1 r1 hj (by omega)
    rw [tF_of x0, gF_of s3 s0, tF_of x6, chk_pos t1.1.1, bind_of e2]
    exact ⟨M2, rfl, r2, f1'.tr f2⟩
/-- the scratch room changed alone -/
theorem CX.scr {M M' : Mm} {l : List Int32} (h : CX Sh M B z rs buf) (f : AgI (fun a => a = B + 145 ∨ a = B + 145 + 1) M M') (hw : WR Sh M' (B + 145) 256 l) : CX Sh M' B z rs buf := h.now (FX.ig f (fun a z => by unfold NWr; omega)) (h.2.1.agg f.toAg (fun a x y => by omega)) ⟨l, hw⟩
theorem MX.ws {μ : Nat} {N N' : Mm} (h : MX Sh N μ z rs buf) (w : WS μ N N') : MX Sh N' μ z rs buf := h.now w.mc (MS.ws h.2.1 w)
theorem op_words (hI : SIall c z rs) (hn : 20000 < n) (a b : Int32) {fX : Mm → Option ((String ⊕ Int32) × Mm)} {fM : Mm → Option (Int32 × Mm)} {gX : Mm → Option ((String ⊕ Int32) × Mm)} {gM : Mm → Option (Int32 × Mm)} (val : List Int32 → Int32)
    (eX : ∀ M, fX M = xb (fX6_requireNode n Sh M B a) (fun E => some (Sum.inl E, M)) (xb (fX6_requireKind n Sh M b 6) (fun E => some (Sum.inl E, M)) ((fX6_collectWords n Sh M B a b).bind gX)))
    (eM : ∀ N, fM N = (fX7_isNode n Sh N (B + 833) a).bind fun r8 => if r8 = 0 then (pI Sh N (B + 833) 7 5 1 fun M1 => tI M1 (B + 833) 5 fun x2 => if x2 = 0 then (fX7_lay n Sh M1 (B + 833) a b).bind gM else some (0, M1)) else (fX7_in n Sh N b 0 5).bind fun r9 => if r9 = 0 then (pI Sh N (B + 833) 7 5 2 fun M1 => tI M1 (B + 833) 5 fun x2 => if x2 = 0 then (fX7_lay n Sh M1 (B + 833) a b).bind gM else some (0, M1)) else (pI Sh N (B + 833) 7 5 0 fun M1 => tI M1 (B + 833) 5 fun x2 => if x2 = 0 then (fX7_lay n Sh M1 (B + 833) a b).bind gM else some (0, M1)))
    (vX : ∀ M l, M.2.1 B 6 = some (B + 145) → WR Sh M (B + 145) 256 l → l.length ≤ 240 → gX M = some (.inr (val l), M)) (vM : ∀ N l, ML Sh N.2.1 (B + 833) → MW N (B + 833) l → gM N = some (val l, N)) : OP Sh B c z rs buf fX fM [("java/lang/IndexOutOfBoundsException", 1), ("java/lang/IllegalArgumentException", 2)] := by
  have hW := hI.1.1
  have hA := hI.1.2.1
  by_cases ca : isN z.1 a
  · by_cases cb : upto 6 b
    · obtain ⟨j, hj, rfl⟩ := id ca
      obtain ⟨q, hq, rfl⟩ := id cb
      have hle := kind_le hW hA hj (nI q)
      refine ⟨0, val (jns [] (kindW z.1 z.2.1 z.2.2.1 j (nI q))), z, rs, buf, fun M hM => ?_, fun N hN => ?_, hI.up⟩
      · obtain ⟨M', e', r', f'⟩ := x_collect (n := n) hM hI hn hj hq
        refine Or.inr ⟨M', ?_, rfl, hM.scr f' r', (f'.mono (fun a z => by unfold CR; omega)).toAg⟩
        rw [eX, x_req hM, cif_pos ca, xb1, show (6 : Int32) = nI 6 from rfl, x_kind (by decide), cif_pos cb, xb1, bind_of e']
        exact vX M' _ (by rw [f'.1]; exact hM.1.2.1.2.2.2.2.2.1) r' hle
      · have h5 := hN.c5 0
        obtain ⟨N', e', r', w'⟩ := m_lay (n := n) h5.1 h5.2.1.1 hW hA (by omega) hj (nI q) (by omega)
        refine ⟨_, N', ?_, by rw [w'.2.2 5 (by decide)]; exact uI_same, fun _ => rfl, h5.ws w', (FM.u (by omega)).tr w'.mc.fm⟩
        rw [eM, bind_of (m_isNode hN.1 hN.2.1.1 _), i0 ca, show (5 : Int32) = nI 5 from rfl, bind_of (m_upto (by decide) _), i0 cb, pI_of hN.1.1, tI_of, uI_same, if_pos rfl, bind_of e']
        exact vM N' _ (w'.ml h5.1) r'
    · refine ⟨2, 0, z, rs, buf, fun M hM => ?_, fun N hN => ?_, hI.up⟩
      · rw [eX, x_req hM, cif_pos ca, xb1, show (6 : Int32) = nI 6 from rfl, x_kind (by decide), cif_neg cb, xb0]
        exact out_err (by decide) (fun _ => rfl) ⟨hM, Ag.rf⟩
      · have e6 : fX7_in n Sh N b 0 5 = some (bI (upto 6 b)) := m_upto (k := 5) (by decide) b
        rw [eM, bind_of (m_isNode hN.1 hN.2.1.1 _), i0 ca, bind_of e6, i0n cb, pI_of hN.1.1, tI_of, uI_same, if_neg (by decide)]
        exact m_err (by decide) hN
  · refine ⟨1, 0, z, rs, buf, fun M hM => ?_, fun N hN => ?_, hI.up⟩
    · rw [eX, x_req hM, cif_neg ca, xb0]
      exact out_err (by decide) (fun _ => rfl) ⟨hM, Ag.rf⟩
    · rw [eM, bind_of (m_isNode hN.1 hN.2.1.1 _), i0n ca, pI_of hN.1.1, tI_of, uI_same, if_neg (by decide)]
      exact m_err (by decide) hN
theorem op_character (hI : SIall c z rs) (hn : 20000 < n) (a b d : Int32) : OP Sh B c z rs buf (fun M => fX6_character n Sh M B a b d) (fun N => fX7_character n Sh N (B + 833) a b d) [("java/lang/IndexOutOfBoundsException", 1), ("java/lang/IllegalArgumentException", 2)] := by
  refine op_words hI hn a b (gX := fun r5 => tF r5 B 6 fun b6 => chk (Sh b6 = some (.inl 5)) <| (fX5_at n Sh r5 b6 d).bind fun r7 => some (Sum.inr r7, r5)) (gM := fun r3 => tI r3 (B + 833) 7 fun x4 => (fX7_in n Sh r3 d 0 (x4 - 1)).bind fun r5 => if r5 = 0 then some ((-1), r3) else tF r3 (B + 833) 6 fun b6 => aI Sh r3 b6 0 d fun x7 => some (x7, r3)) (fun l => lat l d) (fun M => rfl) (fun N => rfl) (fun M l h6 hw hl => ?_) (fun N l hL hM => ?_)
  · try dsimp only
    rw [tF_of h6, chk_pos hw.1, bind_of (w_atI hw (by decide) d)]
  · try dsimp only
    have hl : l.length < 2 ^ 31 := by have := hM.2.1; omega
    rw [tI_of, hM.1, bind_of (m_below hl d)]
    by_cases cd : upto l.length d
    · obtain ⟨q, hq, rfl⟩ := id cd
      have := hM.2.1
      rw [i0 cd, tF_of hL.2.1.2.2.2.1, aI_nI hL.2.2.2.2.2.1 (by omega) (by decide), hM.2.2 q hq, lat_in hq hl]
    · rw [i0n cd, lat_up cd hl]
theorem op_length (hI : SIall c z rs) (hn : 20000 < n) (a b : Int32) : OP Sh B c z rs buf (fun M => fX6_length n Sh M B a b) (fun N => fX7_length n Sh N (B + 833) a b) [("java/lang/IndexOutOfBoundsException", 1), ("java/lang/IllegalArgumentException", 2)] := by
  refine op_words hI hn a b (gX := fun r5 => tF r5 B 6 fun b6 => gI Sh r5 b6 5 1 fun x7 => some (Sum.inr x7, r5)) (gM := fun r3 => tI r3 (B + 833) 7 fun x4 => some (x4, r3)) (fun l => nI l.length) (fun M => rfl) (fun N => rfl) (fun M l h6 hw hl => ?_) (fun N l hL hM => ?_)
  · try dsimp only
    rw [tF_of h6, gI_of hw.1, hw.2.2.2.1]
  · try dsimp only
    rw [tI_of, hM.1]
theorem op_inOrder (hI : SIall c z rs) (hn : 20000 < n) (a : Int32) : OPV Sh B c z rs buf (fun M => fX6_inOrder n Sh M B a) (fun N => fX7_inOrder n Sh N (B + 833) a) := by
  have hW := hI.1.1
  have hlen := pre_len hW hW.root
  refine ⟨kAt (pre z.2.1 0) a, z, rs, buf, fun M hM => ?_, fun N hN => ⟨uI N (B + 833) 5 0, ?_, hN.c5 0, FM.u (by omega)⟩, hI.up⟩
  · obtain ⟨M', e', r', f'⟩ := c_writeOrder (n := n) (w := B + 147) hW (by omega) hM.1.2.2.2.2.2 (Or.inl (by omega)) hM.tr'
    have hX : CX Sh M' B z rs buf := by
      obtain ⟨l, hw⟩ := hM.2.2.2.2.2
      exact hM.now (FX.ig f' (fun a z => by unfold NWr; omega)) (hM.2.1.agg f'.toAg (fun a x y => by omega)) ⟨l, hw.ag f' (by omega) (by omega)⟩
    refine ⟨M', ?_, hX, (f'.mono (fun a z => by unfold CR; omega)).toAg⟩
    try dsimp only
    unfold fX6_inOrder
    rw [tF_of hM.1.2.1.1, gF_of hM.2.1.1.1 hM.2.1.1.2.1, tF_of hM.1.2.1.2.2.2.2.2.2, chk_pos hM.tr'.1.1, bind_of e']
    try dsimp only
    unfold kAt
    by_cases c0 : a < 0
    · rw [if_pos c0, if_pos c0]
    · obtain ⟨q, hq, rfl⟩ := nI_of c0
      rw [if_neg c0, if_neg c0, nI_clamp hq]
      simp only [lt_nI hq (show (pre z.2.1 0).length < 2 ^ 31 by omega)]
      by_cases cq : q < (pre z.2.1 0).length
      · rw [if_pos cq, tF_of hX.1.2.1.2.2.2.2.2.2, aN_of hM.1.2.2.2.2.2, if_pos ((nI_ltI (by omega) (by decide)).mpr (by omega)), tF_of hX.1.2.1.2.2.2.2.2.2, aI_nI hM.1.2.2.2.2.2 (by omega) (by decide), r'.get cq, List.getElem?_eq_getElem cq]
        rfl
      · rw [if_neg cq, List.getElem?_eq_none_iff.mpr (by omega)]
        rfl
  · try dsimp only
    unfold fX7_inOrder fX7_inOrder_14 fX7_inOrder_17
    rw [qI_of]
    have h5 := hN.c5 0
    generalize uI N (B + 833) 5 0 = N0 at *
    by_cases c0 : a < 0
    · rw [if_pos c0]
      refine iter_end' (by omega) ?_
      try dsimp only
      unfold fX7_inOrder_17b kAt
      try dsimp only
      rw [if_neg (fun y => absurd (Int32.lt_trans y c0) (by decide)), if_pos c0]
    · obtain ⟨p, hp, rfl⟩ := nI_of c0
      rw [if_neg c0]
      obtain ⟨r, er, qq⟩ := iter_inv (f := fun s : Int32 × Int32 => fX7_inOrder_17b n Sh (B + 833) (nI p) N0 s.1 s.2) (pre z.2.1 0).length (fun k s => s = (oi (pre z.2.1 0)[k]?, nI k) ∧ k ≤ p) (fun r => r = (kAt (pre z.2.1 0) (nI p), N0)) (fun k s hk hI => by
        obtain ⟨rfl, hkp⟩ := hI
        try dsimp only
        unfold fX7_inOrder_17b
        try dsimp only
        simp only [lt_nI (show k < 2 ^ 31 by omega) hp]
        by_cases ck : k < p
        · rw [if_pos ck]
          by_cases cl : k < (pre z.2.1 0).length
          · have hx := pre_live hW 0 hW.root _ (List.getElem_mem cl)
            rw [List.getElem?_eq_getElem cl, show oi (some (pre z.2.1 0)[k]) = nI (pre z.2.1 0)[k] from rfl, if_neg (nI_ne_neg hx.lt), bind_of (m_follow_pre h5.1 h5.2.1.1 hW (by omega) cl)]
            exact Or.inl ⟨cl, _, rfl, by rw [nI_add1], by omega⟩
          · rw [List.getElem?_eq_none_iff.mpr (by omega), if_pos (show oi none = -1 from rfl)]
            refine Or.inr ⟨_, rfl, ?_⟩
            rw [kAt_nI hp, List.getElem?_eq_none_iff.mpr (by omega)]
        · rw [if_neg ck]
          have e : k = p := by omega
          subst e
          exact Or.inr ⟨_, rfl, by rw [kAt_nI hp]⟩) (show (pre z.2.1 0).length < n by omega) (s := (0, 0)) ⟨by obtain ⟨xs, e⟩ := pre_0 hW; rw [e]; rfl, Nat.zero_le _⟩
      rw [er, qq]
theorem op_canFocus (hI : SIall c z rs) (hn : 20000 < n) (a : Int32) : OP Sh B c z rs buf (fun M => (fX6_canFocus n Sh M B a).map fun y => (y, M)) (fun N => fX7_canFocus n Sh N (B + 833) a) [("java/lang/IndexOutOfBoundsException", 1)] := by
  have hW := hI.1.1
  have hN' := hI.1.2.2.1
  by_cases ca : isN z.1 a
  · obtain ⟨j, hj, rfl⟩ := id ca
    refine ⟨0, bI (admP z.1 j), z, rs, buf, fun M hM => Or.inr ⟨M, ?_, rfl, hM, Ag.rf⟩, fun N hN => ⟨_, uI N (B + 833) 5 0, ?_, uI_same, fun _ => rfl, hN.c5 0, FM.u (by omega)⟩, hI.up⟩
    · show (fX6_canFocus n Sh M B (nI j)).map _ = _
      unfold fX6_canFocus
      rw [x_req hM, cif_pos ca, xb1, tF_of hM.1.2.1.2.1, chk_pos hM.rng.1, bind_of (c_admits hM.rng hM.tr' hW hN' (by omega) (Or.inr ⟨j, hj, rfl⟩)), bI_congr (orN_adm hj), chk_pos (bI_bit _)]
      rfl
    · try dsimp only
      unfold fX7_canFocus fX7_canFocus_14
      rw [bind_of (m_isNode hN.1 hN.2.1.1 _), i0 ca, pI_of hN.1.1, tI_of, uI_same, if_pos rfl, bind_of (m_mayFocus (hN.c5 0).1 (hN.c5 0).2.1.1 hW hN' (by omega) hj)]
      by_cases cj : admP z.1 j
      · rw [i0 cj, bI_pos cj]
      · rw [i0n cj, bI_neg cj]
  · refine ⟨1, 0, z, rs, buf, fun M hM => ?_, fun N hN => ?_, hI.up⟩
    · show OutX ((fX6_canFocus n Sh M B a).map _) _ _ _ _
      unfold fX6_canFocus
      rw [x_req hM, cif_neg ca, xb0]
      exact out_err (by decide) (fun _ => rfl) ⟨hM, Ag.rf⟩
    · show OutM (fX7_canFocus n Sh N (B + 833) a) _ _ _ _
      unfold fX7_canFocus fX7_canFocus_14
      rw [bind_of (m_isNode hN.1 hN.2.1.1 _), i0n ca, pI_of hN.1.1, tI_of, uI_same, if_neg (by decide)]
      exact m_err (by decide) hN
/-- the ring is laid -/
theorem x_fill {M : Mm} (hM : CX Sh M B z rs buf) (hW : WF z.1 z.2.1) (hN : WN z.1) (hn : 20000 < n) : ∃ M', fX2_fill n Sh M (B + 138) = some M' ∧ RO M' (B + 138) (ordL z.1 z.2.1) ∧ CX Sh M' B z rs buf ∧ AgI (fun a => a = B + 138 ∨ a = B + 138 + 1 ∨ a = B + 138 + 2) M M' := by
  obtain ⟨M', e', r', f'⟩ := c_fill (n := n) hM.rng (Or.inl (by omega)) hM.tr' hW hN (by omega)
  obtain ⟨l, hw⟩ := hM.2.2.2.2.2
  exact ⟨M', e', r', hM.now (FX.ig f' (fun a z => by unfold NWr; omega)) (hM.2.1.agg f'.toAg (fun a x y => by omega)) ⟨l, hw.ag f' (by omega) (by omega)⟩, f'⟩
theorem MX.os {μ : Nat} {N N' : Mm} (h : MX Sh N μ z rs buf) (w : OS μ N N') : MX Sh N' μ z rs buf := h.now w.mc (MS.os h.2.1 w)
theorem op_focusOrder (hI : SIall c z rs) (hn : 20000 < n) (a : Int32) : OPV Sh B c z rs buf (fun M => fX6_focusOrder n Sh M B a) (fun N => fX7_focusOrder n Sh N (B + 833) a) := by
  have hW := hI.1.1
  have hN' := hI.1.2.2.1
  have hlen := ordL_len (A := z.1) hW
  refine ⟨kAt (ordL z.1 z.2.1) a, z, rs, buf, fun M hM => ?_, fun N hN => ?_, hI.up⟩
  · obtain ⟨M', e', r', h', f'⟩ := x_fill (n := n) hM hW hN' hn
    refine ⟨M', ?_, h', (f'.mono (fun a z => by unfold CR; omega)).toAg⟩
    try dsimp only
    unfold fX6_focusOrder
    rw [tF_of hM.1.2.1.2.1, chk_pos hM.rng.1, bind_of e', tF_of h'.1.2.1.2.1, chk_pos h'.rng.1, bind_of (c_at h'.rng r' hlen a)]
  · have h5 := hN.c5 0
    obtain ⟨N', e', r', w'⟩ := m_layOrder (n := n) h5.1 h5.2.1.1 hW hN' (by omega)
    refine ⟨N', ?_, h5.os w', (FM.u (by omega)).tr w'.mc.fm⟩
    try dsimp only
    unfold fX7_focusOrder
    rw [qI_of, bind_of e', tI_of, r'.1, bind_of (m_below (by omega) a)]
    by_cases cd : upto (ordL z.1 z.2.1).length a
    · obtain ⟨q, hq, rfl⟩ := id cd
      rw [i0 cd, tF_of (w'.ml h5.1).2.1.2.2.2.2.2, aI_nI hN.1.2.2.2.2.2.2.2 (by omega) (by decide), r'.2.get hq, kAt_nI (by omega), List.getElem?_eq_getElem hq]
      rfl
    · rw [i0n cd, kAt_up cd (by omega)]
theorem op_focus (hI : SIall c z rs) (hn : 20000 < n) : OPV Sh B c z rs buf (fun M => (fX6_focus n Sh M B).map fun v => (v, M)) (fun N => fX7_focus n Sh N (B + 833)) := by
  have hW := hI.1.1
  have hN' := hI.1.2.2.1
  have hfo := hI.1.2.2.2.2.1
  refine ⟨focV z.1 z.2.2.2.2.2.1, z, rs, buf, fun M hM => ⟨M, ?_, hM, Ag.rf⟩, fun N hN => ⟨uI N (B + 833) 5 0, ?_, hN.c5 0, FM.u (by omega)⟩, hI.up⟩
  · have ef : M.1 (B + 1) 3 = z.2.2.2.2.2.1 := hM.2.1.2.2.2.2.2.1
    try dsimp only
    unfold fX6_focus
    rw [tF_of hM.1.2.1.2.1, chk_pos hM.rng.1, bind_of (c_focusNow hM.rng hM.tr' hW hN' (by omega) (by rw [ef]; exact hfo)), ef]
    rfl
  · have h5 := hN.c5 0
    have ef : (uI N (B + 833) 5 0).1 (B + 833 + 1) 3402 = z.2.2.2.2.2.1 := h5.2.1.2.2.2.2.2.1
    try dsimp only
    unfold fX7_focus
    rw [qI_of, bind_of (m_focusNow h5.1 h5.2.1.1 hW hN' (by omega) (by rw [ef]; exact hfo)), ef]
theorem op_trap (hI : SIall c z rs) (hn : 20000 < n) : OPV Sh B c z rs buf (fun M => (fX6_trap n Sh M B).map fun v => (v, M)) (fun N => fX7_trap n Sh N (B + 833)) := by
  have hW := hI.1.1
  have hN' := hI.1.2.2.1
  refine ⟨trapV z.1, z, rs, buf, fun M hM => ⟨M, ?_, hM, Ag.rf⟩, fun N hN => ⟨uI N (B + 833) 5 0, ?_, hN.c5 0, FM.u (by omega)⟩, hI.up⟩
  · try dsimp only
    unfold fX6_trap
    rw [tF_of hM.1.2.1.1, gF_of hM.2.1.1.1 hM.2.1.1.2.1, chk_pos hM.tr'.1.1, bind_of (c_topDialog hM.tr' hW hN' (by omega))]
    rfl
  · try dsimp only
    unfold fX7_trap
    rw [qI_of, bind_of (m_trapNow (hN.c5 0).1 (hN.c5 0).2.1.1 hW hN' (by omega))]
theorem op_region (hI : SIall c z rs) (hn : 20000 < n) (a : Int32) : OP Sh B c z rs buf (fun M => (fX6_region n Sh M B a).map fun y => (y, M)) (fun N => fX7_region n Sh N (B + 833) a) [("java/lang/IndexOutOfBoundsException", 1)] := by
  have hW := hI.1.1
  by_cases ca : isN z.1 a
  · obtain ⟨j, hj, rfl⟩ := id ca
    refine ⟨0, regn z.1 (nI j), z, rs, buf, fun M hM => Or.inr ⟨M, ?_, rfl, hM, Ag.rf⟩, fun N hN => ⟨_, uI N (B + 833) 5 0, ?_, uI_same, fun _ => rfl, hN.c5 0, FM.u (by omega)⟩, hI.up⟩
    · show (fX6_region n Sh M B (nI j)).map _ = _
      unfold fX6_region
      rw [x_req hM, cif_pos ca, xb1, tF_of hM.1.2.1.1, gF_of hM.2.1.1.1 hM.2.1.1.2.1, chk_pos hM.tr'.1.1, bind_of (c_regionOf hM.tr' hW (by omega) hj)]
      rfl
    · try dsimp only
      unfold fX7_region fX7_region_14
      rw [bind_of (m_isNode hN.1 hN.2.1.1 _), i0 ca, pI_of hN.1.1, tI_of, uI_same, if_pos rfl, bind_of (m_regionOf (hN.c5 0).1 (hN.c5 0).2.1.1 hW (by omega) hj)]
  · refine ⟨1, 0, z, rs, buf, fun M hM => ?_, fun N hN => ?_, hI.up⟩
    · show OutX ((fX6_region n Sh M B a).map _) _ _ _ _
      unfold fX6_region
      rw [x_req hM, cif_neg ca, xb0]
      exact out_err (by decide) (fun _ => rfl) ⟨hM, Ag.rf⟩
    · show OutM (fX7_region n Sh N (B + 833) a) _ _ _ _
      unfold fX7_region fX7_region_14
      rw [bind_of (m_isNode hN.1 hN.2.1.1 _), i0n ca, pI_of hN.1.1, tI_of, uI_same, if_neg (by decide)]
      exact m_err (by decide) hN
theorem op_pending (hI : SIall c z rs) : OPV Sh B c z rs buf (fun M => (fX6_pending n Sh M B).map fun v => (v, M)) (fun N => fX7_pending n Sh N (B + 833)) := by
  refine ⟨nI z.2.2.2.1.length, z, rs, buf, fun M hM => ⟨M, ?_, hM, Ag.rf⟩, fun N hN => ⟨uI N (B + 833) 5 0, ?_, hN.c5 0, FM.u (by omega)⟩, hI.up⟩
  · have hq := hM.2.1.2.2.2.1
    try dsimp only
    unfold fX6_pending
    rw [tF_of hM.1.2.1.1, gF_of hM.2.1.1.1 hM.2.1.1.2.2.1, gI_of hq.1.1, hq.2.1]
    rfl
  · try dsimp only
    unfold fX7_pending
    rw [qI_of, m_at720 (hN.c5 0).1, (hN.c5 0).2.1.2.1.1]
theorem op_announcement (hI : SIall c z rs) (a b : Int32) : OP Sh B c z rs buf (fun M => (fX6_announcement n Sh M B a b).map fun y => (y, M)) (fun N => fX7_announcement n Sh N (B + 833) a b) [("java/lang/IllegalArgumentException", 1)] := by
  by_cases cb : upto 4 b
  · refine ⟨0, qAt z.2.2.2.1 a b, z, rs, buf, fun M hM => Or.inr ⟨M, ?_, rfl, hM, Ag.rf⟩, fun N hN => ⟨_, uI N (B + 833) 5 0, ?_, uI_same, fun _ => rfl, hN.c5 0, FM.u (by omega)⟩, hI.up⟩
    · have hq := hM.2.1.2.2.2.1
      show (fX6_announcement n Sh M B a b).map _ = _
      unfold fX6_announcement
      rw [show (4 : Int32) = nI 4 from rfl, x_kind (by decide), cif_pos cb, xb1, tF_of hM.1.2.1.1, gF_of hM.2.1.1.1 hM.2.1.1.2.2.1, chk_pos hq.1.1, bind_of (q_about hq a b)]
      rfl
    · obtain ⟨w, hw, rfl⟩ := id cb
      have h5 := hN.c5 0
      have hq := h5.2.1.2.1
      have h10 := hq.2.1
      try dsimp only
      unfold fX7_announcement fX7_announcement_15
      have e3 : fX7_in n Sh N (nI w) 0 3 = some (bI (upto 4 (nI w))) := m_upto (k := 3) (by decide) _
      rw [bind_of e3, i0 cb, pI_of hN.1.1, tI_of, uI_same, if_pos rfl, m_at720 h5.1, hq.1, bind_of (m_below (by omega) a)]
      unfold qAt
      by_cases ca : upto z.2.2.2.1.length a
      · obtain ⟨k, hk, rfl⟩ := id ca
        have hx : z.2.2.2.1[k]? = some z.2.2.2.1[k] := List.getElem?_eq_getElem hk
        obtain ⟨r1, r2, r3, r4, r5, r6⟩ := hq.2.2 k _ hx
        rw [i0 ca, tF_of h5.1.2.1.1, m_st, bindS, nI_addm, aI_nI h5.1.2.2.1 (by omega) (by decide), if_neg (nI_pos (by omega)), nI_clamp (by omega), hx]
        try dsimp only
        rcases (by omega : w = 0 ∨ w = 1 ∨ w = 2 ∨ w = 3) with e | e | e | e <;> subst e
        · rw [if_pos (by decide), ← r1]; rfl
        · rw [if_neg (by decide), if_pos (by decide), ← r2]
        · rw [if_neg (by decide), if_neg (by decide), if_pos (by decide), ← r3]
        · rw [if_neg (by decide), if_neg (by decide), if_neg (by decide), ← r4]
      · rw [i0n ca]
        by_cases c0 : a < 0
        · rw [if_pos c0]
        · obtain ⟨k, hk, rfl⟩ := nI_of c0
          rw [if_neg c0, nI_clamp hk, List.getElem?_eq_none_iff.mpr (Classical.byContradiction fun y => ca ⟨k, by omega, rfl⟩)]
  · refine ⟨1, 0, z, rs, buf, fun M hM => ?_, fun N hN => ?_, hI.up⟩
    · show OutX ((fX6_announcement n Sh M B a b).map _) _ _ _ _
      unfold fX6_announcement
      rw [show (4 : Int32) = nI 4 from rfl, x_kind (by decide), cif_neg cb, xb0]
      exact out_err (by decide) (fun _ => rfl) ⟨hM, Ag.rf⟩
    · show OutM (fX7_announcement n Sh N (B + 833) a b) _ _ _ _
      unfold fX7_announcement fX7_announcement_15
      have e3 : fX7_in n Sh N b 0 3 = some (bI (upto 4 b)) := m_upto (k := 3) (by decide) _
      rw [bind_of e3, i0n cb, pI_of hN.1.1, tI_of, uI_same, if_neg (by decide)]
      exact m_err (by decide) hN
theorem op_announced (hI : SIall c z rs) (a b : Int32) : OPV Sh B c z rs buf (fun M => (fX6_announced n Sh M B a b).map fun v => (v, M)) (fun N => fX7_announced n Sh N (B + 833) a b) := by
  refine ⟨qSign z.2.2.2.1 a b, z, rs, buf, fun M hM => ⟨M, ?_, hM, Ag.rf⟩, fun N hN => ⟨uI N (B + 833) 5 0, ?_, hN.c5 0, FM.u (by omega)⟩, hI.up⟩
  · have hq := hM.2.1.2.2.2.1
    try dsimp only
    unfold fX6_announced
    rw [tF_of hM.1.2.1.1, gF_of hM.2.1.1.1 hM.2.1.1.2.2.1, chk_pos hq.1.1, bind_of (q_signAt hq a b)]
    rfl
  · have h5 := hN.c5 0
    have hq := h5.2.1.2.1
    have h10 := hq.2.1
    try dsimp only
    unfold fX7_announced fX7_announcedAt
    rw [qI_of, m_at720 h5.1, hq.1, bind_of (m_below (by omega) a)]
    unfold qSign
    by_cases ca : upto z.2.2.2.1.length a
    · obtain ⟨k, hk, rfl⟩ := id ca
      have hx : z.2.2.2.1[k]? = some z.2.2.2.1[k] := List.getElem?_eq_getElem hk
      obtain ⟨r1, r2, r3, r4, r5, r6⟩ := hq.2.2 k _ hx
      rw [i0 ca, tF_of h5.1.2.1.1, m_st, bindS, show nI (721 + 244 * k) + 3 = nI (721 + 244 * k + 3) from nI_addm _ 3, aI_nI h5.1.2.2.1 (by omega) (by decide), r4, bind_of (m_below (by omega) b), if_neg (nI_pos (by omega)), nI_clamp (by omega), hx]
      try dsimp only
      by_cases cb : upto z.2.2.2.1[k].2.2.2.length b
      · obtain ⟨w, hw, rfl⟩ := id cb
        rw [i0 cb, tF_of h5.1.2.1.1, bindS, show nI (721 + 244 * k) + 4 + nI w = nI (721 + 244 * k + (4 + w)) from by rw [show (4 : Int32) = nI 4 from rfl, nI_addm, nI_addm, Nat.add_assoc], aI_nI h5.1.2.2.1 (by omega) (by decide), r6 w hw, bindS, lat_in hw (by omega)]
      · rw [i0n cb, bindS, lat_up cb (by omega)]
    · rw [i0n ca, bindS]
      by_cases c0 : a < 0
      · rw [if_pos c0]
      · obtain ⟨k, hk, rfl⟩ := nI_of c0
        rw [if_neg c0, nI_clamp hk, List.getElem?_eq_none_iff.mpr (Classical.byContradiction fun y => ca ⟨k, by omega, rfl⟩)]
theorem op_spoken (hI : SIall c z rs) (a : Int32) : OPV Sh B c z rs buf (fun M => (fX6_spoken n Sh M B a).map fun v => (v, M)) (fun N => fX7_spoken n Sh N (B + 833) a) := by
  refine ⟨lat z.2.2.2.2.1 a, z, rs, buf, fun M hM => ⟨M, ?_, hM, Ag.rf⟩, fun N hN => ⟨uI N (B + 833) 5 0, ?_, hN.c5 0, FM.u (by omega)⟩, hI.up⟩
  · have hw := hM.2.1.2.2.2.2.1
    try dsimp only
    unfold fX6_spoken
    rw [tF_of hM.1.2.1.1, gF_of hM.2.1.1.1 hM.2.1.1.2.2.2, chk_pos hw.1, bind_of (w_atI hw (by decide) a)]
    rfl
  · have h5 := hN.c5 0
    obtain ⟨-, -, s1, s2, s3, -⟩ := h5.2.1
    try dsimp only
    unfold fX7_spoken
    rw [qI_of, show (3161 : Int32) = nI 3161 from rfl, m_at h5.1 (by decide), s1, bind_of (m_below (by omega) a)]
    by_cases ca : upto z.2.2.2.2.1.length a
    · obtain ⟨k, hk, rfl⟩ := id ca
      rw [i0 ca, show (3162 : Int32) + nI k = nI (3162 + k) from nI_addm 3162 k, m_at h5.1 (by omega), s3 k hk, lat_in hk (by omega)]
    · rw [i0n ca, lat_up ca (by omega)]
theorem op_cellPlace (hI : SIall c z rs) (hn : 20000 < n) (a : Int32) (col : Bool) : OP Sh B c z rs buf (fun M => (fX6_cellPlace n Sh M B a (if col then 1 else 0)).map fun y => (y, M)) (fun N => fX7_cellPlace n Sh N (B + 833) a (if col then 1 else 0)) [("java/lang/IndexOutOfBoundsException", 1)] := by
  have hW := hI.1.1
  have h0 := hI.1.2.2.2.2.2.2.1
  by_cases ca : isN z.1 a
  · obtain ⟨j, hj, rfl⟩ := id ca
    have hex : (∃ b, nI j = nI b ∧ isCellP z.1 b) ↔ isCellP z.1 j := ⟨fun ⟨b, e, hb⟩ => by have := nI_inj hj.lt hb.1.lt e; subst this; exact hb, fun z => ⟨j, rfl, z⟩⟩
    refine ⟨0, cif (isCellP z.1 j) (if col then nI (numV z.1 z.2.1 false j) else nI (numV z.1 z.2.1 true (pr z.1 j))) (-1), z, rs, buf, fun M hM => Or.inr ⟨M, ?_, rfl, hM, Ag.rf⟩, fun N hN => ⟨_, uI N (B + 833) 5 0, ?_, uI_same, fun _ => rfl, hN.c5 0, FM.u (by omega)⟩, hI.up⟩
    · have hg : GR M (B + 141) (B + 1 + 1) := hM.1.2.2.2.1.2
      show (fX6_cellPlace n Sh M B (nI j) (if col then 1 else 0)).map _ = _
      unfold fX6_cellPlace
      rw [x_req hM, cif_pos ca, xb1, tF_of hM.1.2.1.2.2.1, chk_pos hM.1.2.2.2.1.1, bind_of (c_isCell hg hM.tr' hW (Or.inr ⟨j, hj, rfl⟩)), bI_congr hex]
      by_cases hc : isCellP z.1 j
      · rw [i0 hc, cif_pos hc, tF_of hM.1.2.1.2.2.1, chk_pos hM.1.2.2.2.1.1, tF_of hM.1.2.1.2.2.1, chk_pos hM.1.2.2.2.1.1, bind_of (c_rowOf hg hM.tr' hW (by omega) hc), bind_of (c_columnOf hg hM.tr' hW (by omega) hc)]
        cases col <;> rfl
      · rw [i0n hc, cif_neg hc]; rfl
    · have h5 := hN.c5 0
      try dsimp only
      unfold fX7_cellPlace fX7_cellPlace_14
      rw [bind_of (m_isNode hN.1 hN.2.1.1 _), i0 ca, pI_of hN.1.1, tI_of, uI_same, if_pos rfl, bind_of (m_isCell h5.1 h5.2.1.1 hW h0 hj)]
      by_cases hc : isCellP z.1 j
      · obtain ⟨h1, h2, h3, h4, h5', h6, h7, h8⟩ := cellP_par hc
        have en := m_numberOf (n := n) h5.1 h5.2.1.1 hW (by omega) false h1 h2 h4
        have er := m_numberOf (n := n) h5.1 h5.2.1.1 hW (by omega) true h2 h3 h6
        rw [if_neg (by decide)] at en
        rw [if_pos rfl] at er
        rw [i0 hc, cif_pos hc, bind_of (mo1 h5.1 h5.2.1.1 h1), h4, bind_of er, bind_of en]
        cases col <;> rfl
      · rw [i0n hc, cif_neg hc]
  · refine ⟨1, 0, z, rs, buf, fun M hM => ?_, fun N hN => ?_, hI.up⟩
    · show OutX ((fX6_cellPlace n Sh M B a _).map _) _ _ _ _
      unfold fX6_cellPlace
      rw [x_req hM, cif_neg ca, xb0]
      exact out_err (by decide) (fun _ => rfl) ⟨hM, Ag.rf⟩
    · show OutM (fX7_cellPlace n Sh N (B + 833) a _) _ _ _ _
      unfold fX7_cellPlace fX7_cellPlace_14
      rw [bind_of (m_isNode hN.1 hN.2.1.1 _), i0n ca, pI_of hN.1.1, tI_of, uI_same, if_neg (by decide)]
      exact m_err (by decide) hN
theorem op_cellAt (hI : SIall c z rs) (hn : 20000 < n) (a b d : Int32) : OP Sh B c z rs buf (fun M => (fX6_cellAt n Sh M B a b d).map fun y => (y, M)) (fun N => fX7_cellAt n Sh N (B + 833) a b d) [("java/lang/IndexOutOfBoundsException", 1)] := by
  have hW := hI.1.1
  by_cases ca : isN z.1 a
  · obtain ⟨j, hj, rfl⟩ := id ca
    refine ⟨0, if z.1 j 0 = 7 then cellV z.1 z.2.1 j b d else -1, z, rs, buf, fun M hM => Or.inr ⟨M, ?_, rfl, hM, Ag.rf⟩, fun N hN => ⟨_, uI N (B + 833) 5 0, ?_, uI_same, fun _ => rfl, hN.c5 0, FM.u (by omega)⟩, hI.up⟩
    · have hg : GR M (B + 141) (B + 1 + 1) := hM.1.2.2.2.1.2
      show (fX6_cellAt n Sh M B (nI j) b d).map _ = _
      unfold fX6_cellAt
      rw [x_req hM, cif_pos ca, xb1, tF_of hM.1.2.1.1, gF_of hM.2.1.1.1 hM.2.1.1.2.1, chk_pos hM.tr'.1.1, bind_of (c_roleOf hM.tr' _), rd_nI hj.1]
      by_cases h7 : z.1 j 0 = 7
      · rw [if_pos h7, if_pos h7, tF_of hM.1.2.1.2.2.1, chk_pos hM.1.2.2.2.1.1, bind_of (c_cellIn hg hM.tr' hW (by omega) hj b d)]; rfl
      · rw [if_neg h7, if_neg h7]; rfl
    · try dsimp only
      unfold fX7_cellAt fX7_cellAt_14
      rw [bind_of (m_isNode hN.1 hN.2.1.1 _), i0 ca, pI_of hN.1.1, tI_of, uI_same, if_pos rfl, bind_of (m_cellOf (hN.c5 0).1 (hN.c5 0).2.1.1 hW (by omega) hj b d)]
  · refine ⟨1, 0, z, rs, buf, fun M hM => ?_, fun N hN => ?_, hI.up⟩
    · show OutX ((fX6_cellAt n Sh M B a b d).map _) _ _ _ _
      unfold fX6_cellAt
      rw [x_req hM, cif_neg ca, xb0]
      exact out_err (by decide) (fun _ => rfl) ⟨hM, Ag.rf⟩
    · show OutM (fX7_cellAt n Sh N (B + 833) a b d) _ _ _ _
      unfold fX7_cellAt fX7_cellAt_14
      rw [bind_of (m_isNode hN.1 hN.2.1.1 _), i0n ca, pI_of hN.1.1, tI_of, uI_same, if_neg (by decide)]
      exact m_err (by decide) hN
theorem op_header (hI : SIall c z rs) (hn : 20000 < n) (a : Int32) (col : Bool) : OP Sh B c z rs buf (fun M => (fX6_header n Sh M B a (if col then 1 else 0)).map fun y => (y, M)) (fun N => fX7_header n Sh N (B + 833) a (if col then 1 else 0)) [("java/lang/IndexOutOfBoundsException", 1)] := by
  have hW := hI.1.1
  have h0 := hI.1.2.2.2.2.2.2.1
  by_cases ca : isN z.1 a
  · obtain ⟨j, hj, rfl⟩ := id ca
    refine ⟨0, headV z.1 z.2.1 col (nI j), z, rs, buf, fun M hM => Or.inr ⟨M, ?_, rfl, hM, Ag.rf⟩, fun N hN => ⟨_, uI N (B + 833) 5 0, ?_, uI_same, fun _ => rfl, hN.c5 0, FM.u (by omega)⟩, hI.up⟩
    · have hg : GR M (B + 141) (B + 1 + 1) := hM.1.2.2.2.1.2
      show (fX6_header n Sh M B (nI j) (if col then 1 else 0)).map _ = _
      unfold fX6_header
      rw [x_req hM, cif_pos ca, xb1, tF_of hM.1.2.1.2.2.1, chk_pos hM.1.2.2.2.1.1, bind_of (c_headerOf hg hM.tr' hW (by omega) (Or.inr ⟨j, hj, rfl⟩) col)]
      rfl
    · try dsimp only
      unfold fX7_header fX7_header_14
      rw [bind_of (m_isNode hN.1 hN.2.1.1 _), i0 ca, pI_of hN.1.1, tI_of, uI_same, if_pos rfl, bind_of (m_headerOf (hN.c5 0).1 (hN.c5 0).2.1.1 hW h0 (by omega) hj col)]
  · refine ⟨1, 0, z, rs, buf, fun M hM => ?_, fun N hN => ?_, hI.up⟩
    · show OutX ((fX6_header n Sh M B a _).map _) _ _ _ _
      unfold fX6_header
      rw [x_req hM, cif_neg ca, xb0]
      exact out_err (by decide) (fun _ => rfl) ⟨hM, Ag.rf⟩
    · show OutM (fX7_header n Sh N (B + 833) a _) _ _ _ _
      unfold fX7_header fX7_header_14
      rw [bind_of (m_isNode hN.1 hN.2.1.1 _), i0n ca, pI_of hN.1.1, tI_of, uI_same, if_neg (by decide)]
      exact m_err (by decide) hN
end OPS1
