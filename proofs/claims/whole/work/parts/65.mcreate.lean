/-! ===== LEVEL 2: the reference: create, takes ===== -/
def zrP (a k : Nat) (pg : Nat → Int32) : Nat → Int32 := fun i => if 30 * a ≤ i ∧ i < 30 * a + k then 0 else pg i
theorem zr_0 {a : Nat} {pg : Nat → Int32} : zrP a 0 pg = pg := by
  funext i
  exact if_neg (by omega)
theorem zr_step {a k : Nat} {pg : Nat → Int32} : upd (zrP a k pg) (30 * a + k) 0 = zrP a (k + 1) pg := by
  funext i
  unfold upd zrP
  by_cases e : i = 30 * a + k
  · rw [if_pos e, if_pos (by omega)]
  · rw [if_neg e]
    by_cases c : 30 * a ≤ i ∧ i < 30 * a + k
    · rw [if_pos c, if_pos (by omega)]
    · rw [if_neg c, if_neg (by omega)]
def tkP (b k : Nat) (l : List Int32) (pg : Nat → Int32) : Nat → Int32 := fun i => if b ≤ i ∧ i < b + k then l.getD (i - b) 0 else pg i
theorem tk_0 {b : Nat} {l : List Int32} {pg : Nat → Int32} : tkP b 0 l pg = pg := by
  funext i
  exact if_neg (by omega)
theorem tk_step {b k : Nat} {l : List Int32} {pg : Nat → Int32} : upd (tkP b k l pg) (b + k) (l.getD k 0) = tkP b (k + 1) l pg := by
  funext i
  unfold upd tkP
  by_cases e : i = b + k
  · rw [if_pos e, if_pos (by omega), e, Nat.add_sub_cancel_left]
  · rw [if_neg e]
    by_cases c : b ≤ i ∧ i < b + k
    · rw [if_pos c, if_pos (by omega)]
    · rw [if_neg c, if_neg (by omega)]
theorem bgv0 (r : Int32) {s : Nat} (hs : s < 5) : bgv r (5 + s) = 0 := by
  unfold bgv
  rw [if_neg (by omega), if_neg (by omega), if_neg (by omega), if_neg (by omega)]
section MCREATE
variable {Sh : Sp} {M M' : Mm} {μ n : Nat} {A A' : At} {K K' : Kt} {W W' : Wt}
theorem m_freeNode (hL : ML Sh M.2.1 μ) (hP : MP (M.1 (μ + 1)) A K W) (hn : 24 < n) : ∃ j, j ≤ 24 ∧ fX7_freeNode n Sh M μ = some (nI j) ∧ (∀ i, i < j → live A i) ∧ (j < 24 → ¬ live A j) := by
  unfold fX7_freeNode fX7_freeNode_2
  obtain ⟨r, e, j, h1, h2, h3, h4⟩ := iter_inv (f := fun s => fX7_freeNode_2b n Sh M μ s) 24 (fun j s => s = nI j ∧ ∀ i, i < j → live A i) (fun r => ∃ j, j ≤ 24 ∧ r = nI j ∧ (∀ i, i < j → live A i) ∧ (j < 24 → ¬ live A j)) (fun j s hj hI => by
    obtain ⟨rfl, hI⟩ := hI
    unfold fX7_freeNode_2b
    by_cases h24 : j < 24
    · rw [if_pos (lt24 h24), bind_of (mo0 hL hP h24)]
      by_cases hl : live A j
      · rw [i1 hl]
        refine Or.inl ⟨h24, _, rfl, nI_add1 j, fun i hi => ?_⟩
        by_cases e : i = j
        · rw [e]; exact hl
        · exact hI i (by omega)
      · rw [i1n hl]
        exact Or.inr ⟨_, rfl, j, by omega, rfl, hI, fun _ => hl⟩
    · have : j = 24 := by omega
      subst this
      rw [if_neg (by decide)]
      exact Or.inr ⟨_, rfl, 24, by omega, rfl, hI, fun z => absurd z (by decide)⟩) hn (s := 0) ⟨rfl, fun i hi => absurd hi (Nat.not_lt_zero i)⟩
  exact ⟨j, h1, by rw [e, h2], h3, h4⟩
theorem m_create79 (hL : ML Sh M.2.1 μ) (hP : MP (M.1 (μ + 1)) A K W) (hW : WF A K) (hA : WA A W) (hn : 30 < n) {a p pos : Nat} {r : Int32} (ha : a < 24) (hf : ¬ live A a) (hp : live A p) (hr : r ≠ -1) (hpos : pos ≤ (K p).length) : ∃ M', fX7_create_79 n Sh μ (nI p) (nI pos) r M (nI a) 0 = some (nI a, M') ∧ MP (M'.1 (μ + 1)) (sA (bgA A a r) a 1 (nI p)) (sK (sK K a []) p (ins (sK K a [] p) pos a)) (bgW W a) ∧ PS μ (fun i => i < 720) M M' := by
  have hpa : p ≠ a := fun z => hf (by rw [← z]; exact hp)
  have hla : ∀ i, live A i → i ≠ a := fun i hi z => hf (by rw [← z]; exact hi)
  have hlb : ∀ i, live (bgA A a r) i ↔ i = a ∨ live A i := fun i => by
    unfold live bgA
    by_cases c : i = a
    · subst c
      rw [if_pos rfl]
      exact ⟨fun _ => Or.inl rfl, fun _ => ⟨ha, hr⟩⟩
    · rw [if_neg c]
      exact ⟨Or.inr, fun z => z.resolve_left c⟩
  have hsk : ∀ i, live A i → sK K a [] i = K i := fun i hi => sK_i (hla i hi)
  -- the page after the node's fields are laid
  let X : Mm := uI (uI (uI (uI (wI M (μ + 1) (zrP a 30 (M.1 (μ + 1)))) (μ + 1) (30 * a) 1) (μ + 1) (30 * a + 3) r) (μ + 1) (30 * a + 4) (-1)) (μ + 1) (30 * a + 11) (-1)
  have hXo : ∀ i, (i < 30 * a ∨ 30 * a + 30 ≤ i) → X.1 (μ + 1) i = M.1 (μ + 1) i := fun i hi => by
    show (uI _ _ _ _).1 (μ + 1) i = _
    rw [uI_row (by omega), uI_row (by omega), uI_row (by omega), uI_row (by omega), wI_same]
    exact if_neg (by omega)
  have hX0 : X.1 (μ + 1) (30 * a) = 1 := by
    show (uI _ _ _ _).1 (μ + 1) _ = _
    rw [uI_row (by omega), uI_row (by omega), uI_row (by omega), uI_same]
  have hX3 : X.1 (μ + 1) (30 * a + 3) = r := by
    show (uI _ _ _ _).1 (μ + 1) _ = _
    rw [uI_row (by omega), uI_row (by omega), uI_same]
  have hX4 : X.1 (μ + 1) (30 * a + 4) = -1 := by
    show (uI _ _ _ _).1 (μ + 1) _ = _
    rw [uI_row (by omega), uI_same]
  have hX11 : X.1 (μ + 1) (30 * a + 11) = -1 := uI_same
  have hXz : ∀ i, i < 30 → i ≠ 0 → i ≠ 3 → i ≠ 4 → i ≠ 11 → X.1 (μ + 1) (30 * a + i) = 0 := fun i h1 h2 h3 h4 h5 => by
    show (uI _ _ _ _).1 (μ + 1) _ = _
    rw [uI_row (by omega), uI_row (by omega), uI_row (by omega), uI_row (by omega), wI_same]
    exact if_pos (by omega)
  have hXM : ∀ b, b ≠ μ + 1 → X.1 b = M.1 b := fun b hb => by
    show (uI _ _ _ _).1 b = _
    rw [uI_off hb, uI_off hb, uI_off hb, uI_off hb]
    exact wI_off hb
  have hX2 : X.2 = M.2 := rfl
  have hmx : ∀ j, j < 24 → MPx a (X.1 (μ + 1)) (bgA A a r) (sK K a []) (bgW W a) j := by
    intro j hj
    by_cases ja : j = a
    · subst ja
      refine ⟨by rw [hX0, bI_pos ((hlb j).mpr (Or.inl rfl))], fun _ => ⟨fun z => absurd rfl z, by rw [hX3, bgA_s]; rfl, by rw [hX4, bgA_s]; rfl, fun s hs => by rw [hXz _ (by omega) (by omega) (by omega) (by omega) (by omega), bgA_s, bgv0 r hs], by rw [hXz _ (by omega) (by omega) (by omega) (by omega) (by omega), bgA_s]; rfl, by rw [hX11, bgA_s]; exact (if_pos rfl).symm, by rw [hXz _ (by omega) (by omega) (by omega) (by omega) (by omega), bgW_s]; rfl, by rw [hXz _ (by omega) (by omega) (by omega) (by omega) (by omega), bgW_s]; rfl, fun k hk => by rw [bgW_s] at hk; exact absurd hk (Nat.not_lt_zero k), fun k hk => by rw [bgW_s] at hk; exact absurd hk (Nat.not_lt_zero k)⟩⟩
    · refine (hP.mx 24 hj).cong a (fun z => by omega) (hXo _ (by omega)) (fun _ i h1 h2 => hXo i (by omega)) ⟨fun z => ((hlb j).mp z).resolve_left ja, fun z => (hlb j).mpr (Or.inr z)⟩ (fun hl => ⟨fun s _ _ => bgA_i ja, fun _ => bgA_i ja, fun _ => ?_, ⟨bgW_i ja, bgW_i ja⟩, (hA j hl).1, (hA j hl).2.1⟩)
      have e1 : bgA A a r j 1 = A j 1 := bgA_i ja
      rcases hW.par hl with z | ⟨u, hu, z⟩
      · rw [rank_root z, rank_root (by rw [e1]; exact z)]
      · rw [rank_raw hu.lt z, rank_raw hu.lt (by rw [e1]; exact z), hsk u hu]
  have hwl : WL (bgA A a r) (bgW W a) := fun j hj => by
    by_cases ja : j = a
    · subst ja; rw [bgW_s, bgW_s]; exact ⟨Nat.zero_le _, Nat.zero_le _⟩
    · have := hA j (((hlb j).mp hj).resolve_left ja)
      rw [bgW_i ja, bgW_i ja]
      exact ⟨this.1, this.2.1⟩
  have hLX : ML Sh X.2.1 μ := hL
  obtain ⟨M9, e9, r9, p9⟩ := m_attach (n := n) hLX hmx hwl (by omega) ((hlb a).mpr (Or.inl rfl)) ((hlb p).mpr (Or.inr hp)) (by rw [hsk p hp]; exact hpos) (by rw [hsk p hp]; exact kids_len hW hp) (by rw [hsk p hp]; exact hW.2.2.2.1 p hp) (by rw [hsk p hp]; exact fun z => hf (hW.2.2.1 p hp a z).1) (fun j hj ja => by
    have hl := ((hlb j).mp hj).resolve_left ja
    rw [show bgA A a r j 1 = A j 1 from bgA_i ja]
    rcases hW.par hl with z | ⟨u, hu, z⟩
    · exact Or.inl z
    · exact Or.inr ⟨u, hu.1, z, by rw [hsk u hu]; exact (hW.kid hl hu.1 z).2⟩)
  unfold fX7_create_79
  refine ⟨M9, iter_seq (N := 30) (fun k => (nI k, wI M (μ + 1) (zrP a k (M.1 (μ + 1))))) (fun k hk => ?_) ?_ hn (by rw [zr_0, wI_self]; rfl), r9, PS.tr ⟨hX2, hXM, fun i hi => hXo i (by omega)⟩ p9⟩
  · unfold fX7_create_79b
    dsimp only
    have hLx : ML Sh (wI M (μ + 1) (zrP a k (M.1 (μ + 1)))).2.1 μ := hL
    rw [if_pos (show nI k < 30 from (nI_ltI (b := 30) (by omega) (by decide)).mpr hk), bind_of (m_put hLx ha hk 0), wI_upd, zr_step, nI_add1]
  · unfold fX7_create_79b fX7_create_101
    dsimp only
    rw [if_neg (show ¬ nI 30 < 30 by decide)]
    have f1 : fX7_put n Sh (wI M (μ + 1) (zrP a 30 (M.1 (μ + 1)))) μ (nI a) 0 1 = some (uI (wI M (μ + 1) (zrP a 30 (M.1 (μ + 1)))) (μ + 1) (30 * a) 1) := m_put (n := n) (M := wI M (μ + 1) (zrP a 30 (M.1 (μ + 1)))) hL ha (w := 0) (by decide) 1
    have f2 : ∀ Y : Mm, ML Sh Y.2.1 μ → fX7_put n Sh Y μ (nI a) 3 r = some (uI Y (μ + 1) (30 * a + 3) r) := fun Y hY => m_put hY ha (w := 3) (by decide) r
    have f3 : ∀ Y : Mm, ML Sh Y.2.1 μ → fX7_put n Sh Y μ (nI a) 4 (-1) = some (uI Y (μ + 1) (30 * a + 4) (-1)) := fun Y hY => m_put hY ha (w := 4) (by decide) (-1)
    have f4 : ∀ Y : Mm, ML Sh Y.2.1 μ → fX7_put n Sh Y μ (nI a) 11 (-1) = some (uI Y (μ + 1) (30 * a + 11) (-1)) := fun Y hY => m_put hY ha (w := 11) (by decide) (-1)
    have g2 := f2 (uI (wI M (μ + 1) (zrP a 30 (M.1 (μ + 1)))) (μ + 1) (30 * a) 1) hL
    have g3 := f3 (uI (uI (wI M (μ + 1) (zrP a 30 (M.1 (μ + 1)))) (μ + 1) (30 * a) 1) (μ + 1) (30 * a + 3) r) hL
    have g4 := f4 (uI (uI (uI (wI M (μ + 1) (zrP a 30 (M.1 (μ + 1)))) (μ + 1) (30 * a) 1) (μ + 1) (30 * a + 3) r) (μ + 1) (30 * a + 4) (-1)) hL
    have g5 : fX7_attach n Sh (uI (uI (uI (uI (wI M (μ + 1) (zrP a 30 (M.1 (μ + 1)))) (μ + 1) (30 * a) 1) (μ + 1) (30 * a + 3) r) (μ + 1) (30 * a + 4) (-1)) (μ + 1) (30 * a + 11) (-1)) μ (nI a) (nI p) (nI pos) = some M9 := e9
    rw [bind_of f1, bind_of g2, bind_of g3, bind_of g4, bind_of g5]
    rfl
/-- the buffer of the reference -/
def MB (Sh : Sp) (M : Mm) (μ : Nat) (buf : List Int32) : Prop := M.1 μ 4 = nI buf.length ∧ buf.length ≤ 8 ∧ ∀ k, k < buf.length → M.1 (μ + 3) k = buf.getD k 0
theorem MB.ps {buf : List Int32} {S : Nat → Prop} (h : MB Sh M μ buf) (p : PS μ S M M') : MB Sh M' μ buf := ⟨by rw [p.2.1 μ (by omega)]; exact h.1, h.2.1, fun k hk => by rw [p.2.1 (μ + 3) (by omega)]; exact h.2.2 k hk⟩
theorem MB.mc {buf : List Int32} (h : MB Sh M μ buf) (p : MC μ M M') : MB Sh M' μ buf := ⟨by rw [p.2.2 4 (by decide) (by decide)]; exact h.1, h.2.1, fun k hk => by rw [p.2.1 (μ + 3) (by omega) (by omega) (by omega) (by omega) (by omega)]; exact h.2.2 k hk⟩
theorem m_takes (hL : ML Sh M.2.1 μ) (hP : MP (M.1 (μ + 1)) A K W) (hA : WA A W) (hn : 24 < n) {buf : List Int32} (hB : MB Sh M μ buf) {a : Nat} (ha : live A a) {s0 lf cf : Nat} (hs : (s0 = 0 ∧ lf = 12 ∧ cf = 14) ∨ (s0 = 1 ∧ lf = 13 ∧ cf = 22)) : ∃ M', fX7_takes n Sh M μ (nI a) (nI lf) (nI cf) = some (bI (W a s0 ≠ buf), M') ∧ MP (M'.1 (μ + 1)) A K (sW W a s0 buf) ∧ PS μ (fun i => i < 720) M M' := by
  have ha24 := ha.1
  obtain ⟨b1, b2, b3⟩ := hB
  have hb31 : buf.length < 2 ^ 31 := by omega
  have hlf : lf < 30 := by omega
  have w8 : (W a s0).length ≤ 8 := by
    rcases hs with ⟨rfl, -, -⟩ | ⟨rfl, -, -⟩
    · exact (hA a ha).1
    · exact (hA a ha).2.1
  have plen : M.1 (μ + 1) (30 * a + lf) = nI (W a s0).length := by
    rcases hs with ⟨rfl, rfl, -⟩ | ⟨rfl, rfl, -⟩
    · exact ((hP a ha24).2 ha).2.2.2.2.2.2.2.1
    · exact ((hP a ha24).2 ha).2.2.2.2.2.2.2.2.1
  have pch : ∀ k, k < (W a s0).length → M.1 (μ + 1) (30 * a + (cf + k)) = (W a s0).getD k 0 := by
    rcases hs with ⟨rfl, -, rfl⟩ | ⟨rfl, -, rfl⟩
    · exact ((hP a ha24).2 ha).2.2.2.2.2.2.2.2.2.1
    · exact ((hP a ha24).2 ha).2.2.2.2.2.2.2.2.2.2
  let Y : Nat → Mm := fun k => wI M (μ + 1) (tkP (30 * a + cf) k buf (upd (M.1 (μ + 1)) (30 * a + lf) (nI buf.length)))
  have s69 : ∀ v : Int32, (v = 0 ∨ v = 1) → fX7_takes_69 n Sh μ (nI a) (nI lf) (nI cf) M v = some (v, Y buf.length) := by
    intro v hv
    unfold fX7_takes_69 fX7_takes_82
    simp only [tI_of, b1]
    rw [bind_of (m_put hL ha24 hlf (nI buf.length))]
    refine iter_seq (N := buf.length) (fun k => (nI k, Y k)) (fun k hk => ?_) ?_ (by omega) ?_
    · unfold fX7_takes_82b
      dsimp only
      have e4 : (Y k).1 μ 4 = nI buf.length := by rw [show (Y k).1 μ = M.1 μ from wI_off (by omega)]; exact b1
      simp only [tI_of, e4, lt_nI (show k < 2 ^ 31 by omega) hb31, if_pos hk]
      rw [tF_of (show (Y k).2.1 μ 3 = some (μ + 3) from hL.2.1.2.2.1), aI_nI (N := 8) hL.2.2.2.2.1 (by omega) (by decide), show (Y k).1 (μ + 3) = M.1 (μ + 3) from wI_off (by omega), b3 k hk, nI_addm, bind_of (m_put (M := Y k) (n := n) hL ha24 (show cf + k < 30 by omega) (buf.getD k 0)), nI_add1]
      have : uI (Y k) (μ + 1) (30 * a + (cf + k)) (buf.getD k 0) = Y (k + 1) := by
        show uI (wI M (μ + 1) _) (μ + 1) _ _ = wI M (μ + 1) _
        rw [wI_upd, ← Nat.add_assoc, tk_step]
      rw [this]
    · unfold fX7_takes_82b
      dsimp only
      have e4 : (Y buf.length).1 μ 4 = nI buf.length := by rw [show (Y buf.length).1 μ = M.1 μ from wI_off (by omega)]; exact b1
      simp only [tI_of, e4, lt_nI hb31 hb31]
      rw [if_neg (Nat.lt_irrefl _), chk_pos hv]
    · show (nI 0, uI M (μ + 1) (30 * a + lf) (nI buf.length)) = (nI 0, wI M (μ + 1) _)
      rw [tk_0]
      rfl
  have s23 : ∀ (D : Prop), (¬ D → (W a s0).length = buf.length) → fX7_takes_23 n Sh μ (nI a) (nI lf) (nI cf) M (bI D) 0 = some (bI (D ∨ ∃ q, q < buf.length ∧ (W a s0).getD q 0 ≠ buf.getD q 0), Y buf.length) := by
    intro D hD
    unfold fX7_takes_23
    refine iter_seq (N := buf.length) (fun k => (bI (D ∨ ∃ q, q < k ∧ (W a s0).getD q 0 ≠ buf.getD q 0), nI k)) (fun k hk => ?_) ?_ (by omega) ?_
    · unfold fX7_takes_23b fX7_takes_56 fX7_takes_61
      dsimp only
      simp only [tI_of, b1, lt_nI (show k < 2 ^ 31 by omega) hb31, if_pos hk]
      by_cases c : D ∨ ∃ q, q < k ∧ (W a s0).getD q 0 ≠ buf.getD q 0
      · rw [i0 c, nI_add1, bI_pos]
        exact c.imp id (fun ⟨q, h1, h2⟩ => ⟨q, by omega, h2⟩)
      · have hlen := hD (fun z => c (Or.inl z))
        rw [i0n c, nI_addm, bind_of (m_of hL ha24 (show cf + k < 30 by omega)), pch k (by omega), tF_of hL.2.1.2.2.1, aI_nI (N := 8) hL.2.2.2.2.1 (by omega) (by decide), b3 k hk, nI_add1]
        by_cases c2 : (W a s0).getD k 0 = buf.getD k 0
        · rw [if_pos c2, bI_neg]
          rintro (z | ⟨q, h1, h2⟩)
          · exact c (Or.inl z)
          · by_cases e : q = k
            · subst e; exact h2 c2
            · exact c (Or.inr ⟨q, by omega, h2⟩)
        · rw [if_neg c2, bI_pos]
          exact Or.inr ⟨k, by omega, c2⟩
    · unfold fX7_takes_23b
      dsimp only
      simp only [tI_of, b1, lt_nI hb31 hb31]
      rw [if_neg (Nat.lt_irrefl _), s69 _ (bI_bit _)]
      rfl
    · congr 1
      refine bI_congr ⟨Or.inl, fun z => z.elim id (fun ⟨q, h1, _⟩ => absurd h1 (Nat.not_lt_zero q))⟩
  have hneq : (¬ (W a s0).length = buf.length ∨ ∃ q, q < buf.length ∧ (W a s0).getD q 0 ≠ buf.getD q 0) ↔ W a s0 ≠ buf := by
    constructor
    · rintro (z | ⟨q, h1, h2⟩) e
      · exact z (by rw [e])
      · exact h2 (by rw [e])
    · intro z
      by_cases c : (W a s0).length = buf.length
      · refine Or.inr (Classical.byContradiction fun y => z (List.ext_getElem c (fun i h1 h2 => ?_)))
        have : (W a s0).getD i 0 = buf.getD i 0 := Classical.byContradiction fun w => y ⟨i, h2, w⟩
        simpa [List.getD_eq_getElem?_getD, h1, h2] using this
      · exact Or.inl c
  refine ⟨Y buf.length, ?_, ?_, ⟨rfl, fun b hb => wI_off hb, fun i hi => ?_⟩⟩
  · unfold fX7_takes fX7_takes_18
    rw [bind_of (m_of hL ha24 hlf), plen]
    simp only [tI_of, b1, eq_nI (show (W a s0).length < 2 ^ 31 by omega) hb31]
    rw [← bI_congr hneq]
    by_cases c : (W a s0).length = buf.length
    · rw [if_pos c, show (0 : Int32) = bI (¬ (W a s0).length = buf.length) from (bI_neg (fun z => z c)).symm]
      have := s23 (¬ (W a s0).length = buf.length) (fun z => Classical.byContradiction z)
      rw [bI_neg (fun z => z c)] at this ⊢
      exact this
    · rw [if_neg c]
      have := s23 (¬ (W a s0).length = buf.length) (fun z => Classical.byContradiction z)
      rw [bI_pos c] at this
      exact this
  · have hY : (Y buf.length).1 (μ + 1) = tkP (30 * a + cf) buf.length buf (upd (M.1 (μ + 1)) (30 * a + lf) (nI buf.length)) := wI_same
    refine hP.pw hA.wl hs buf b2 (fun i h1 h2 h3 => ?_) ?_ (fun k hk => ?_)
    · rw [hY]; unfold tkP upd; rw [if_neg (by omega), if_neg h2]
    · rw [hY]; unfold tkP upd; rw [if_neg (by omega), if_pos rfl]
    · rw [hY]; unfold tkP; rw [if_pos (by omega), show 30 * a + (cf + k) - (30 * a + cf) = k from by omega]
  · have hY : (Y buf.length).1 (μ + 1) = tkP (30 * a + cf) buf.length buf (upd (M.1 (μ + 1)) (30 * a + lf) (nI buf.length)) := wI_same
    rw [hY]; unfold tkP upd; rw [if_neg (by omega), if_neg (by omega)]
end MCREATE
