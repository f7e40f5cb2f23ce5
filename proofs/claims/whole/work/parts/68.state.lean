/-! ===== LEVEL 2: the whole state; records ===== -/
abbrev Sc : Type := At × Kt × Wt × List QI × List Int32 × Int32 × Int32 × Int32
def CSc (Sh : Sp) (M : Mm) (σ : Nat) (z : Sc) : Prop := CS Sh M σ z.1 z.2.1 z.2.2.1 z.2.2.2.1 z.2.2.2.2.1 z.2.2.2.2.2.1 z.2.2.2.2.2.2.1 z.2.2.2.2.2.2.2
def MSc (pg : Nat → Int32) (z : Sc) : Prop := MS pg z.1 z.2.1 z.2.2.1 z.2.2.2.1 z.2.2.2.2.1 z.2.2.2.2.2.1 z.2.2.2.2.2.2.1 z.2.2.2.2.2.2.2
def SIc (c : Nat) (z : Sc) : Prop := SI c z.1 z.2.1 z.2.2.1 z.2.2.2.1 z.2.2.2.2.2.1 z.2.2.2.2.2.2.1 z.2.2.2.2.2.2.2
def XL (Sh : Sp) (R : Nat → Nat → Option Nat) (B : Nat) : Prop := Sh B = some (.inl 6) ∧ (R B 0 = some (B + 1) ∧ R B 1 = some (B + 138) ∧ R B 2 = some (B + 141) ∧ R B 3 = some (B + 142) ∧ R B 5 = some (B + 143) ∧ R B 6 = some (B + 145) ∧ R B 7 = some (B + 147)) ∧ (Sh (B + 138) = some (.inl 2) ∧ R (B + 138) 0 = some (B + 1) ∧ R (B + 138) 1 = some (B + 139) ∧ R (B + 138) 2 = some (B + 140) ∧ Sh (B + 139) = some (.inr (0, 24)) ∧ Sh (B + 140) = some (.inr (0, 24))) ∧ (Sh (B + 141) = some (.inl 0) ∧ R (B + 141) 0 = some (B + 2)) ∧ Sh (B + 142) = some (.inr (5, 5)) ∧ Sh (B + 147) = some (.inr (0, 24))
def CRc (Sh : Sp) (M : Mm) (B : Nat) (rs : List Sc) : Prop := (∀ k, k < 5 → ∃ y, CSc Sh M (B + 148 + 137 * k) y) ∧ ∃ p : Nat → Nat, (∀ i, i < 5 → p i < 5) ∧ (∀ i j, i < 5 → j < 5 → p i = p j → i = j) ∧ (∀ i, i < 5 → M.2.1 (B + 142) i = some (B + 148 + 137 * p i)) ∧ ∀ i x, rs[i]? = some x → CSc Sh M (B + 148 + 137 * p i) x
/-- the class's object -/
def CX (Sh : Sp) (M : Mm) (B : Nat) (z : Sc) (rs : List Sc) (buf : List Int32) : Prop := XL Sh M.2.1 B ∧ CSc Sh M (B + 1) z ∧ (M.1 B 4 = nI rs.length ∧ rs.length ≤ 5) ∧ CRc Sh M B rs ∧ WR Sh M (B + 143) 8 buf ∧ ∃ l, WR Sh M (B + 145) 256 l
/-- all that belongs to the class's object -/
def CR (B : Nat) : Nat → Prop := fun a => B ≤ a ∧ a < B + 833
/-- the reference's object -/
def MX (Sh : Sp) (M : Mm) (μ : Nat) (z : Sc) (rs : List Sc) (buf : List Int32) : Prop := ML Sh M.2.1 μ ∧ MSc (M.1 (μ + 1)) z ∧ (M.1 μ 2 = nI rs.length ∧ rs.length ≤ 5 ∧ ∀ i x, rs[i]? = some x → MSc (fun k => M.1 (μ + 2) (3405 * i + k)) x) ∧ MB Sh M μ buf
def FM (μ : Nat) (M M' : Mm) : Prop := M'.2.1 = M.2.1 ∧ (∀ a, ¬ (μ ≤ a ∧ a < μ + 7) → M'.1 a = M.1 a) ∧ ∀ a, a ≠ μ → M'.2.2 a = M.2.2 a
theorem FM.rf {μ : Nat} {M : Mm} : FM μ M M := ⟨rfl, fun _ _ => rfl, fun _ _ => rfl⟩
theorem FM.tr {μ : Nat} {M M1 M2 : Mm} (h : FM μ M M1) (h' : FM μ M1 M2) : FM μ M M2 := ⟨h'.1.trans h.1, fun a x => (h'.2.1 a x).trans (h.2.1 a x), fun a x => (h'.2.2 a x).trans (h.2.2 a x)⟩
theorem MC.fm {μ : Nat} {M M' : Mm} (h : MC μ M M') : FM μ M M' := ⟨by rw [h.1], fun a ha => h.2.1 a (by omega) (by omega) (by omega) (by omega) (by omega), fun a _ => by rw [h.1]⟩
theorem FM.ml {Sh : Sp} {μ : Nat} {M M' : Mm} (h : FM μ M M') (hL : ML Sh M.2.1 μ) : ML Sh M'.2.1 μ := by rw [h.1]; exact hL
theorem FM.u {μ : Nat} {M : Mm} {a k : Nat} {v : Int32} (h : μ ≤ a ∧ a < μ + 7) : FM μ M (uI M a k v) := ⟨rfl, fun b hb => uI_off (fun e => hb (by rw [e]; exact h)), fun _ _ => rfl⟩
def kpR (rs : List Sc) (z : Sc) : List Sc := (if rs.length < 5 then rs else rs.drop 1) ++ [z]
theorem kpR_len {rs : List Sc} {z : Sc} (h : rs.length ≤ 5) : (kpR rs z).length ≤ 5 := by
  unfold kpR
  rw [List.length_append, List.length_singleton]
  by_cases c : rs.length < 5
  · rw [if_pos c]; omega
  · rw [if_neg c, List.length_drop]; omega
theorem kpR_mem {rs : List Sc} {z x : Sc} (h : x ∈ kpR rs z) : x = z ∨ x ∈ rs := by
  unfold kpR at h
  rcases List.mem_append.mp h with h | h
  · by_cases c : rs.length < 5
    · rw [if_pos c] at h; exact Or.inr h
    · rw [if_neg c] at h; exact Or.inr (List.mem_of_mem_drop h)
  · exact Or.inl (List.mem_singleton.mp h)
def wR (M : Mm) (a : Nat) (f : Nat → Option Nat) : Mm := (M.1, fun b => if b = a then f else M.2.1 b, M.2.2)
theorem wR_same {M : Mm} {a : Nat} {f : Nat → Option Nat} : (wR M a f).2.1 a = f := if_pos rfl
theorem wR_off {M : Mm} {a b : Nat} {f : Nat → Option Nat} (h : b ≠ a) : (wR M a f).2.1 b = M.2.1 b := if_neg h
theorem wR_upd {M : Mm} {a k : Nat} {f : Nat → Option Nat} {v : Option Nat} : uR (wR M a f) a k v = wR M a (va_up f k v) := by
  unfold uR wR
  simp only [if_true]
  have : (fun b => if b = a then va_up f k v else if b = a then f else M.2.1 b) = fun b => if b = a then va_up f k v else M.2.1 b := by
    funext b
    by_cases e : b = a
    · rw [if_pos e, if_pos e]
    · rw [if_neg e, if_neg e, if_neg e]
  rw [this]
theorem wR_self {M : Mm} {a : Nat} : wR M a (M.2.1 a) = M := by
  unfold wR
  have : (fun b => if b = a then M.2.1 a else M.2.1 b) = M.2.1 := by
    funext b
    by_cases e : b = a
    · rw [if_pos e, e]
    · rw [if_neg e]
  rw [this]
section STATE
variable {Sh : Sp} {M M' : Mm} {B μ n : Nat} {z z' y : Sc} {rs rs' : List Sc} {buf buf' : List Int32}
theorem CSc.agg {σ : Nat} {S : Nat → Prop} (h : CSc Sh M σ z) (ha : Ag S M M') (hS : ∀ a, σ ≤ a → a < σ + 137 → ¬ S a) : CSc Sh M' σ z := CS.agg h ha hS
theorem CSc.la {σ : Nat} (h : CSc Sh M σ z) (L : Nat → Nat → Int64) : CSc Sh (M.1, M.2.1, L) σ z := h
theorem CRc.agg {S : Nat → Prop} (h : CRc Sh M B rs) (hl : rs.length ≤ 5) (ha : Ag S M M') (hS : ∀ a, B + 142 ≤ a → a < B + 833 → S a → a ≠ B + 142 ∧ a < B + 148) : CRc Sh M' B rs := by
  obtain ⟨h1, p, h2, h3, h4, h5⟩ := h
  refine ⟨fun k hk => ?_, p, h2, h3, fun i hi => ?_, fun i x hx => ?_⟩
  · obtain ⟨y, hy⟩ := h1 k hk
    exact ⟨y, hy.agg ha (fun a x1 x2 x3 => by have := hS a (by omega) (by omega) x3; omega)⟩
  · rw [(ha.2 (B + 142) (fun x => (hS _ (by omega) (by omega) x).1 rfl)).2]; exact h4 i hi
  · have hi := (List.getElem?_eq_some_iff.mp hx).1
    have := h2 i (by omega)
    exact (h5 i x hx).agg ha (fun a x1 x2 x3 => by have := hS a (by omega) (by omega) x3; omega)
/-- the present scene, the ring, the rooms beside: what a call on the present may touch -/
def NWr (B : Nat) : Nat → Prop := fun a => (B + 1 ≤ a ∧ a < B + 141) ∨ a = B + 145 ∨ a = B + 146 ∨ a = B + 147
def FX (B : Nat) (M M' : Mm) : Prop := Ag (NWr B) M M' ∧ M'.2.1 (B + 138) = M.2.1 (B + 138)
theorem FX.rf : FX B M M := ⟨Ag.rf, rfl⟩
theorem FX.tr {M1 : Mm} (h : FX B M M1) (h' : FX B M1 M') : FX B M M' := ⟨h.1.tr h'.1, h'.2.trans h.2⟩
theorem FX.sc (h : Ag (SS2 (B + 1) (B + 145)) M M') : FX B M M' := ⟨h.mono (fun a z => by unfold SS2 at z; unfold NWr; omega), (h.2 (B + 138) (by unfold SS2; omega)).2⟩
theorem FX.ig {S : Nat → Prop} (h : AgI S M M') (hS : ∀ a, S a → NWr B a) : FX B M M' := ⟨(h.mono hS).toAg, by rw [h.1]⟩
theorem FX.cr (h : FX B M M') : Ag (CR B) M M' := h.1.mono (fun a z => by unfold NWr at z; unfold CR; omega)
theorem CX.now (h : CX Sh M B z rs buf) (f : FX B M M') (hz : CSc Sh M' (B + 1) z') (hs : ∃ l, WR Sh M' (B + 145) 256 l) : CX Sh M' B z' rs buf := by
  obtain ⟨⟨x1, x2, x3, x4, x5, x6⟩, h2, ⟨h3, h4⟩, h5, h6, h7⟩ := h
  have e0 := (f.1.2 B (by unfold NWr; omega)).2
  have e1 := f.2
  have e2 := (f.1.2 (B + 141) (by unfold NWr; omega)).2
  refine ⟨⟨x1, by rw [e0]; exact x2, by rw [e1]; exact x3, by rw [e2]; exact x4, x5, x6⟩, hz, ⟨by rw [(f.1.2 B (by unfold NWr; omega)).1]; exact h3, h4⟩, h5.agg h4 f.1 (fun a x1 x2 x3 => by unfold NWr at x3; omega), h6.Ag f.1 (by unfold NWr; omega) (by unfold NWr; omega), hs⟩
theorem CX.fr (h : CX Sh M B z rs buf) (f : ∀ a, B ≤ a → a < B + 833 → M'.1 a = M.1 a ∧ M'.2.1 a = M.2.1 a) : CX Sh M' B z rs buf := by
  have ha : Ag (fun a => ¬ (B ≤ a ∧ a < B + 833)) M (M'.1, M'.2.1, M.2.2) := ⟨rfl, fun a ha => f a (by omega) (by omega)⟩
  obtain ⟨⟨x1, x2, x3, x4, x5, x6⟩, h2, ⟨h3, h4⟩, h5, h6, l, h7⟩ := h
  have e0 := (f B (by omega) (by omega))
  have e1 := (f (B + 138) (by omega) (by omega)).2
  have e2 := (f (B + 141) (by omega) (by omega)).2
  have g2 : CSc Sh (M'.1, M'.2.1, M.2.2) (B + 1) z := h2.agg ha (fun a x1 x2 => by omega)
  have g5 : CRc Sh (M'.1, M'.2.1, M.2.2) B rs := h5.agg h4 ha (fun a x1 x2 x3 => by omega)
  have g6 : WR Sh (M'.1, M'.2.1, M.2.2) (B + 143) 8 buf := h6.Ag ha (by omega) (by omega)
  have g7 : WR Sh (M'.1, M'.2.1, M.2.2) (B + 145) 256 l := h7.Ag ha (by omega) (by omega)
  exact ⟨⟨x1, by rw [e0.2]; exact x2, by rw [e1]; exact x3, by rw [e2]; exact x4, x5, x6⟩, g2, ⟨by rw [e0.1]; exact h3, h4⟩, g5, g6, l, g7⟩
theorem CX.rng (h : CX Sh M B z rs buf) : RNG Sh M.2.1 (B + 138) (B + 1) := by
  obtain ⟨⟨x1, x2, x3, x4, x5, x6⟩, h2, -⟩ := h
  exact ⟨x3.1, x3.2.1, x3.2.2.1, x3.2.2.2.1, x3.2.2.2.2.1, x3.2.2.2.2.2, h2.1.1, h2.1.2.1⟩
theorem CX.tr' (h : CX Sh M B z rs buf) : CT Sh M (B + 1 + 1) z.1 z.2.1 z.2.2.1 := h.2.1.2.1
/-- a present scene kept -/
theorem x_keep54 (h : CX Sh M B z rs buf) (hn : 24 < n) (hl : rs.length < 5) : ∃ M', fX6_keepRecord_54 n Sh B M = some M' ∧ CX Sh M' B z (rs ++ [z]) buf ∧ Ag (CR B) M M' := by
  obtain ⟨⟨x1, x2, x3, x4, x5, x6⟩, h2, ⟨h3, h4⟩, ⟨g1, p, g2, g3, g4, g5⟩, h6, l, h7⟩ := h
  unfold fX6_keepRecord_54
  have hp := g2 _ hl
  obtain ⟨y, hy⟩ := g1 _ hp
  simp only [tI_of, h3]
  rw [if_neg (nI_pos (show rs.length < 2 ^ 31 by omega)), tF_of x2.2.2.2.1, aN_of x5, if_pos ((nI_ltI (show rs.length < 2 ^ 31 by omega) (by decide)).mpr hl), tF_of x2.2.2.2.1, aR_nI x5 hl (by decide) (g4 _ hl), tF_of x2.1, chk_pos hy.1.1]
  obtain ⟨M1, e1, r1, f1⟩ := s_copy (n := n) hy h2 hn (by omega)
  rw [bind_of e1]
  simp only [tI_of, qI_of]
  have e0 : M1.1 B = M.1 B := f1.2 B (by unfold SC; omega)
  rw [e0, h3, nI_add1]
  have a1 : Ag (fun a => SC (B + 148 + 137 * p rs.length) a ∨ a = B) M (uI M1 B 4 (nI (rs.length + 1))) := (f1.toAg.mono (fun a z => Or.inl z)).tr (Ag.uI (Or.inr rfl))
  have aB : Ag (fun a => a = B) M1 (uI M1 B 4 (nI (rs.length + 1))) := Ag.uI rfl
  have r1' : CSc Sh (uI M1 B 4 (nI (rs.length + 1))) (B + 148 + 137 * p rs.length) z := CSc.agg (z := z) r1 aB (fun a x1 x2 => by omega)
  refine ⟨_, rfl, ⟨⟨x1, ?_, ?_, ?_, x5, x6⟩, h2.agg a1 (fun a y1 y2 y3 => by unfold SC at y3; omega), ⟨by rw [uI_same, List.length_append]; rfl, by rw [List.length_append, List.length_singleton]; omega⟩, ⟨fun k hk => ?_, p, g2, g3, fun i hi => ?_, fun i x hx => ?_⟩, h6.Ag a1 (by unfold SC; omega) (by unfold SC; omega), l, h7.Ag a1 (by unfold SC; omega) (by unfold SC; omega)⟩, a1.mono (fun a y => by unfold SC at y; unfold CR; omega)⟩
  · show (uI M1 B 4 _).2.1 B 0 = _ ∧ _
    rw [uI_2, f1.1]; exact x2
  · rw [uI_2, f1.1]; exact x3
  · rw [uI_2, f1.1]; exact x4
  · by_cases e : k = p rs.length
    · subst e; exact ⟨z, r1'⟩
    · obtain ⟨y', hy'⟩ := g1 k hk
      exact ⟨y', hy'.agg a1 (fun a y1 y2 y3 => by unfold SC at y3; omega)⟩
  · rw [uI_2, f1.1]; exact g4 i hi
  · by_cases c : i < rs.length
    · rw [List.getElem?_append_left c] at hx
      have hi5 : i < 5 := by omega
      have hne : p i ≠ p rs.length := fun z => by have := g3 i _ hi5 hl z; omega
      have := g2 i hi5
      exact (g5 i x hx).agg a1 (fun a y1 y2 y3 => by unfold SC at y3; omega)
    · have hi := (List.getElem?_eq_some_iff.mp hx).1
      rw [List.length_append, List.length_singleton] at hi
      have e : i = rs.length := by omega
      subst e
      rw [List.getElem?_append_right (Nat.le_refl _), Nat.sub_self] at hx
      cases hx
      exact r1'
theorem x_keep (h : CX Sh M B z rs buf) (hn : 24 < n) : ∃ M', fX6_keepRecord n Sh M B = some M' ∧ CX Sh M' B z (kpR rs z) buf ∧ Ag (CR B) M M' := by
  unfold fX6_keepRecord kpR
  obtain ⟨⟨x1, x2, x3, x4, x5, x6⟩, h2, ⟨h3, h4⟩, ⟨g1, p, g2, g3, g4, g5⟩, h6, l, h7⟩ := id h
  simp only [tI_of, h3]
  by_cases c : rs.length < 5
  · rw [if_pos (show nI rs.length < 5 from lt5 c), if_pos c]
    exact x_keep54 h hn c
  · have h5 : rs.length = 5 := by omega
    rw [if_neg (show ¬ nI rs.length < 5 by rw [h5]; decide), if_neg c]
    rw [tF_of x2.2.2.2.1, show aR Sh M (B + 142) 5 0 = aR (ρ := Mm) Sh M (B + 142) 5 (nI 0) from rfl, aR_nI x5 (by decide) (by decide) (g4 0 (by decide))]
    let X : Nat → Mm := fun j => wR M (B + 142) (shl (M.2.1 (B + 142)) 0 (1 + j))
    have hX : ∀ j, (X j).2.1 (B + 142) = shl (M.2.1 (B + 142)) 0 (1 + j) := fun j => wR_same
    have hXB : ∀ j, (X j).2.1 B = M.2.1 B := fun j => wR_off (by omega)
    -- behind the loop
    let Y : Mm := uI (uR (X 4) (B + 142) 4 (some (B + 148 + 137 * p 0))) B 4 4
    have hYR : ∀ i, i < 5 → Y.2.1 (B + 142) i = some (B + 148 + 137 * p (if i < 4 then i + 1 else 0)) := fun i hi => by
      show (uR (X 4) (B + 142) 4 (some (B + 148 + 137 * p 0))).2.1 (B + 142) i = _
      by_cases e : i = 4
      · subst e; rw [uR_same, if_neg (by decide)]
      · rw [uR_row e, hX, if_pos (by omega)]
        unfold shl
        rw [if_pos (by omega)]
        exact g4 (i + 1) (by omega)
    have hYo : Ag (fun a => a = B + 142 ∨ a = B) M Y := by
      refine ⟨rfl, fun a ha => ⟨?_, ?_⟩⟩
      · show (uI _ _ _ _).1 a = _
        rw [uI_off (fun z => ha (Or.inr z))]
        rfl
      · show (uR _ _ _ _).2.1 a = _
        rw [uR_off (fun z => ha (Or.inl z))]
        exact wR_off (fun z => ha (Or.inl z))
    have hYB : Y.2.1 B = M.2.1 B := by
      show (uR _ _ _ _).2.1 B = _
      rw [uR_off (by omega)]
      exact hXB 4
    have hY : CX Sh Y B z (rs.drop 1) buf := by
      refine ⟨⟨x1, by rw [hYB]; exact x2, ?_, ?_, x5, x6⟩, h2.agg hYo (fun a y1 y2 y3 => by omega), ⟨?_, by rw [List.length_drop]; omega⟩, ⟨fun k hk => ?_, fun i => p (if i < 4 then i + 1 else 0), fun i hi => ?_, fun i j hi hj e => ?_, hYR, fun i x hx => ?_⟩, h6.Ag hYo (by omega) (by omega), l, h7.Ag hYo (by omega) (by omega)⟩
      · rw [(hYo.2 (B + 138) (by omega)).2]; exact x3
      · rw [(hYo.2 (B + 141) (by omega)).2]; exact x4
      · show (uI _ B 4 4).1 B 4 = _
        rw [uI_same, List.length_drop, h5]
        rfl
      · obtain ⟨y', hy'⟩ := g1 k hk
        exact ⟨y', hy'.agg hYo (fun a y1 y2 y3 => by omega)⟩
      · dsimp only
        exact g2 _ (by split <;> omega)
      · have := g3 _ _ (by split <;> omega) (by split <;> omega) e
        by_cases ci : i < 4
        · by_cases cj : j < 4
          · rw [if_pos ci, if_pos cj] at this; omega
          · rw [if_pos ci, if_neg cj] at this; omega
        · by_cases cj : j < 4
          · rw [if_neg ci, if_pos cj] at this; omega
          · omega
      · have hi := (List.getElem?_eq_some_iff.mp hx).1
        rw [List.length_drop] at hi
        rw [List.getElem?_drop, Nat.add_comm] at hx
        dsimp only
        rw [if_pos (by omega)]
        exact (g5 (i + 1) x hx).agg hYo (fun a y1 y2 y3 => by omega)
    obtain ⟨M', e', r', f'⟩ := x_keep54 (n := n) hY hn (by rw [List.length_drop]; omega)
    obtain ⟨y0, hy0⟩ := g1 (p 0) (g2 0 (by decide))
    unfold fX6_keepRecord_17
    refine ⟨M', iter_seq (N := 4) (fun j => (nI (1 + j), X j)) (fun j hj => ?_) ?_ (by omega) (by show _ = (nI 1, wR M (B + 142) _); rw [shl_start, wR_self]; rfl), r', (hYo.mono (fun a y => by unfold CR; omega)).tr f'⟩
    · unfold fX6_keepRecord_17b
      dsimp only
      rw [if_pos (show nI (1 + j) < 5 from lt5 (by omega)), tF_of (by rw [hXB]; exact x2.2.2.2.1), tF_of (by rw [hXB]; exact x2.2.2.2.1)]
      have ev : (X j).2.1 (B + 142) (1 + j) = some (B + 148 + 137 * p (1 + j)) := by rw [hX, shl_ge]; exact g4 _ (by omega)
      obtain ⟨y1, hy1⟩ := g1 (p (1 + j)) (g2 _ (by omega))
      rw [aR_nI x5 (by omega) (by decide) ev, nI_sub1 (by omega), sR_nI x5 (by omega) (by decide) hy1.1.1]
      have e1 : uR (X j) (B + 142) (1 + j - 1) (some (B + 148 + 137 * p (1 + j))) = X (j + 1) := by
        show uR (wR M (B + 142) _) (B + 142) _ _ = wR M (B + 142) _
        rw [wR_upd, ← g4 (1 + j) (by omega), shl_stepR _ _ _ (by omega)]
        rfl
      rw [e1, nI_add1]
      rfl
    · unfold fX6_keepRecord_17b fX6_keepRecord_42
      dsimp only
      rw [if_neg (show ¬ nI (1 + 4) < 5 by decide), tF_of (by rw [hXB]; exact x2.2.2.2.1), show (4 : Int32) = nI 4 from rfl, sR_nI x5 (by decide) (by decide) hy0.1.1]
      simp only [qI_of]
      show (fX6_keepRecord_54 n Sh B Y).map Sum.inr = _
      rw [e']
      rfl
theorem x_undo (h : CX Sh M B z (rs ++ [y]) buf) (hn : 24 < n) : ∃ M', fX6_undo n Sh M B = some (.inr (nI rs.length), M') ∧ CX Sh M' B y rs buf ∧ Ag (CR B) M M' := by
  obtain ⟨⟨x1, x2, x3, x4, x5, x6⟩, h2, ⟨h3, h4⟩, ⟨g1, p, g2, g3, g4, g5⟩, h6, l, h7⟩ := h
  rw [List.length_append, List.length_singleton] at h3 h4
  have hl : rs.length < 5 := by omega
  unfold fX6_undo
  simp only [tI_of, h3, nI_le0 (show rs.length + 1 < 2 ^ 31 by omega)]
  rw [if_neg (by omega), tF_of x2.2.2.2.1, aN_of x5, if_pos ((nI_leI (by omega) (by decide)).mpr (by omega))]
  simp only [qI_of, nI_sub1 (show 0 < rs.length + 1 by omega), Nat.add_sub_cancel, uI_same]
  have a0 : Ag (fun a => a = B) M (uI M B 4 (nI rs.length)) := Ag.uI rfl
  have c0 : (uI M B 4 (nI rs.length)).1 B 4 = nI rs.length := uI_same
  have r0 : (uI M B 4 (nI rs.length)).2.1 = M.2.1 := rfl
  generalize uI M B 4 (nI rs.length) = M0 at *
  have hy : CSc Sh M0 (B + 148 + 137 * p rs.length) y := (g5 rs.length y (by rw [List.getElem?_append_right (Nat.le_refl _), Nat.sub_self]; rfl)).agg a0 (fun a x1 x2 => by omega)
  have hz : CSc Sh M0 (B + 1) z := h2.agg a0 (fun a x1 x2 => by omega)
  rw [tF_of (by rw [r0]; exact x2.1), tF_of (by rw [r0]; exact x2.2.2.2.1), aR_nI x5 hl (by decide) (by rw [r0]; exact g4 _ hl), chk_pos hz.1.1]
  obtain ⟨M1, e1, r1, f1⟩ := s_copy (n := n) hz hy hn (by omega)
  rw [bind_of e1]
  have a1 : Ag (fun a => SC (B + 1) a ∨ a = B) M M1 := (a0.mono (fun a z => Or.inr z)).tr (f1.toAg.mono (fun a z => Or.inl z))
  have e0 : M1.1 B 4 = nI rs.length := by rw [f1.2 B (by unfold SC; omega)]; exact c0
  rw [e0]
  have rr : M1.2.1 = M.2.1 := by rw [f1.1]; exact r0
  refine ⟨M1, rfl, ⟨by rw [rr]; exact ⟨x1, x2, x3, x4, x5, x6⟩, r1, ⟨e0, by omega⟩, ⟨fun k hk => ?_, p, g2, g3, fun i hi => by rw [rr]; exact g4 i hi, fun i x hx => ?_⟩, h6.Ag a1 (by unfold SC; omega) (by unfold SC; omega), l, h7.Ag a1 (by unfold SC; omega) (by unfold SC; omega)⟩, a1.mono (fun a y => by unfold SC at y; unfold CR; omega)⟩
  · obtain ⟨y', hy'⟩ := g1 k hk
    exact ⟨y', hy'.agg a1 (fun a y1 y2 y3 => by unfold SC at y3; omega)⟩
  · have hi := (List.getElem?_eq_some_iff.mp hx).1
    have := g2 i (by omega)
    exact (g5 i x (by rw [List.getElem?_append_left hi]; exact hx)).agg a1 (fun a y1 y2 y3 => by unfold SC at y3; omega)
theorem x_undo0 (h : CX Sh M B z [] buf) : fX6_undo n Sh M B = some (.inl "java/lang/IllegalStateException", M) := by
  unfold fX6_undo fX6_undo_19
  have h3 : M.1 B 4 = 0 := h.2.2.1.1
  simp only [tI_of, h3]
  rw [if_pos (by decide)]
end STATE
def cpP (b k : Nat) (g f : Nat → Int32) : Nat → Int32 := fun i => if b ≤ i ∧ i < b + k then g (i - b) else f i
theorem cp_0 {b : Nat} {g f : Nat → Int32} : cpP b 0 g f = f := by
  funext i
  exact if_neg (by omega)
theorem cp_step {b k : Nat} {g f : Nat → Int32} : upd (cpP b k g f) (b + k) (g k) = cpP b (k + 1) g f := by
  funext i
  unfold upd cpP
  by_cases e : i = b + k
  · rw [if_pos e, if_pos (by omega), e, Nat.add_sub_cancel_left]
  · rw [if_neg e]
    by_cases c : b ≤ i ∧ i < b + k
    · rw [if_pos c, if_pos (by omega)]
    · rw [if_neg c, if_neg (by omega)]
def dnP (k : Nat) (f : Nat → Int32) : Nat → Int32 := fun i => if i < k then f (i + 3405) else f i
theorem dn_0 {f : Nat → Int32} : dnP 0 f = f := by
  funext i
  exact if_neg (Nat.not_lt_zero i)
theorem dn_step {k : Nat} {f : Nat → Int32} : upd (dnP k f) k (f (k + 3405)) = dnP (k + 1) f := by
  funext i
  unfold upd dnP
  by_cases e : i = k
  · rw [if_pos e, if_pos (by omega), e]
  · rw [if_neg e]
    by_cases c : i < k
    · rw [if_pos c, if_pos (by omega)]
    · rw [if_neg c, if_neg (by omega)]
theorem MSc.cong {pg pg' : Nat → Int32} {z : Sc} (h : MSc pg z) (hA : WL z.1 z.2.2.1) (hp : ∀ i, i < 3405 → pg' i = pg i) : MSc pg' z := by
  obtain ⟨h1, ⟨a1, a2, a3⟩, h3, h4, h5, h6, h7, h8⟩ := h
  refine ⟨h1.cong hA (fun i hi => hp i (by omega)) (fun j _ => Iff.rfl) (fun j _ => ⟨fun _ _ _ => rfl, fun _ => rfl, rfl, rfl, rfl⟩), ⟨by rw [hp _ (by omega)]; exact a1, a2, fun i x hx => ?_⟩, by rw [hp _ (by omega)]; exact h3, h4, fun j hj => by rw [hp _ (by omega)]; exact h5 j hj, by rw [hp _ (by omega)]; exact h6, by rw [hp _ (by omega)]; exact h7, by rw [hp _ (by omega)]; exact h8⟩
  have hi := (List.getElem?_eq_some_iff.mp hx).1
  obtain ⟨r1, r2, r3, r4, r5, r6⟩ := a3 i x hx
  exact ⟨by rw [hp _ (by omega)]; exact r1, by rw [hp _ (by omega)]; exact r2, by rw [hp _ (by omega)]; exact r3, by rw [hp _ (by omega)]; exact r4, r5, fun j hj => by rw [hp _ (by omega)]; exact r6 j hj⟩
section MSTATE
variable {Sh : Sp} {M M' : Mm} {μ n : Nat} {z z' y : Sc} {rs rs' : List Sc} {buf buf' : List Int32}
theorem MX.now (h : MX Sh M μ z rs buf) (c : MC μ M M') (hz : MSc (M'.1 (μ + 1)) z') : MX Sh M' μ z' rs buf := by
  obtain ⟨h1, h2, ⟨h3, h4, h5⟩, h6⟩ := h
  exact ⟨c.ml h1, hz, ⟨by rw [c.2.2 2 (by decide) (by decide)]; exact h3, h4, fun i x hx => by rw [c.2.1 (μ + 2) (by omega) (by omega) (by omega) (by omega) (by omega)]; exact h5 i x hx⟩, h6.mc c⟩
theorem MX.fr (h : MX Sh M μ z rs buf) (f : ∀ a, μ ≤ a → a < μ + 7 → M'.1 a = M.1 a ∧ M'.2.1 a = M.2.1 a) : MX Sh M' μ z rs buf := by
  obtain ⟨⟨l1, l2, l3⟩, h2, ⟨h3, h4, h5⟩, h6⟩ := h
  have e0 := f μ (by omega) (by omega)
  have e1 := f (μ + 1) (by omega) (by omega)
  have e2 := f (μ + 2) (by omega) (by omega)
  have e3 := f (μ + 3) (by omega) (by omega)
  exact ⟨⟨l1, by rw [e0.2]; exact l2, l3⟩, by rw [e1.1]; exact h2, ⟨by rw [e0.1]; exact h3, h4, fun i x hx => by rw [e2.1]; exact h5 i x hx⟩, by rw [e0.1]; exact h6.1, h6.2.1, fun k hk => by rw [e3.1]; exact h6.2.2 k hk⟩
theorem MX.c5 (h : MX Sh M μ z rs buf) (v : Int32) : MX Sh (uI M μ 5 v) μ z rs buf := by
  obtain ⟨h1, h2, ⟨h3, h4, h5⟩, h6⟩ := h
  exact ⟨h1, by rw [uI_off (by omega)]; exact h2, ⟨by rw [uI_row (by decide)]; exact h3, h4, fun i x hx => by rw [uI_off (by omega)]; exact h5 i x hx⟩, by rw [uI_row (by decide)]; exact h6.1, h6.2.1, fun k hk => by rw [uI_off (by omega)]; exact h6.2.2 k hk⟩
theorem m_keep51 (h : MX Sh M μ z rs buf) (hA : WL z.1 z.2.2.1) (hR : ∀ x ∈ rs, WL x.1 x.2.2.1) (hl : rs.length < 5) (hn : 20000 < n) : ∃ M', fX7_keep_51 n Sh μ M 0 = some M' ∧ MX Sh M' μ z (rs ++ [z]) buf ∧ FM μ M M' ∧ M'.1 μ 5 = M.1 μ 5 ∧ (∀ a, a ≠ μ → a ≠ μ + 2 → M'.1 a = M.1 a) := by
  obtain ⟨h1, h2, ⟨h3, h4, h5⟩, h6⟩ := h
  unfold fX7_keep_51
  let X : Nat → Mm := fun k => wI M (μ + 2) (cpP (3405 * rs.length) k (M.1 (μ + 1)) (M.1 (μ + 2)))
  have hX1 : ∀ k a, a ≠ μ + 2 → (X k).1 a = M.1 a := fun k a ha => wI_off ha
  have hX2 : ∀ k, (X k).1 (μ + 2) = cpP (3405 * rs.length) k (M.1 (μ + 1)) (M.1 (μ + 2)) := fun k => wI_same
  have hY2 : (uI (X 3405) μ 2 (nI (rs.length + 1))).1 (μ + 2) = cpP (3405 * rs.length) 3405 (M.1 (μ + 1)) (M.1 (μ + 2)) := by rw [uI_off (by omega)]; exact hX2 3405
  have hYo : ∀ a, a ≠ μ → a ≠ μ + 2 → (uI (X 3405) μ 2 (nI (rs.length + 1))).1 a = M.1 a := fun a x1 x2 => by rw [uI_off x1]; exact hX1 3405 a x2
  have hYm : ∀ k, k ≠ 2 → (uI (X 3405) μ 2 (nI (rs.length + 1))).1 μ k = M.1 μ k := fun k hk => by rw [uI_row hk, hX1 3405 μ (by omega)]
  refine ⟨uI (X 3405) μ 2 (nI (rs.length + 1)), iter_seq (N := 3405) (fun k => (nI k, X k)) (fun k hk => ?_) ?_ (by omega) (by show _ = (nI 0, wI M (μ + 2) _); rw [cp_0, wI_self]; rfl), ?_, ?_, hYm 5 (by decide), hYo⟩
  · unfold fX7_keep_51b
    dsimp only
    rw [if_pos (show nI k < 3405 from (nI_ltI (b := 3405) (by omega) (by decide)).mpr hk), tF_of (show (X k).2.1 μ 1 = some (μ + 2) from h1.2.1.2.1)]
    simp only [tI_of, hX1 k μ (by omega), h3]
    rw [tF_of (show (X k).2.1 μ 0 = some (μ + 1) from h1.2.1.1), aI_nI h1.2.2.1 hk (by decide), hX1 k (μ + 1) (by omega)]
    rw [show (3405 : Int32) * nI rs.length + nI k = nI (3405 * rs.length + k) from by rw [show (3405 : Int32) = nI 3405 from rfl, nI_mulm, nI_addm], sI_nI h1.2.2.2.1 (by omega) (by decide), nI_add1]
    have e1 : uI (X k) (μ + 2) (3405 * rs.length + k) (M.1 (μ + 1) k) = X (k + 1) := by
      show uI (wI M (μ + 2) _) (μ + 2) _ _ = wI M (μ + 2) _
      rw [wI_upd, cp_step]
    rw [e1]
  · unfold fX7_keep_51b fX7_keep_85
    dsimp only
    rw [if_neg (show ¬ nI 3405 < 3405 by decide)]
    simp only [tI_of, qI_of, hX1 3405 μ (by omega), h3, nI_add1]
    rfl
  · refine ⟨h1, by rw [hYo _ (by omega) (by omega)]; exact h2, ⟨by rw [uI_same, List.length_append]; rfl, by rw [List.length_append, List.length_singleton]; omega, fun i x hx => ?_⟩, by rw [hYm 4 (by decide)]; exact h6.1, h6.2.1, fun k hk => by rw [hYo _ (by omega) (by omega)]; exact h6.2.2 k hk⟩
    by_cases c : i < rs.length
    · rw [List.getElem?_append_left c] at hx
      refine (h5 i x hx).cong (hR x (List.mem_of_getElem? hx)) (fun k hk => ?_)
      rw [hY2]
      exact if_neg (by omega)
    · have hi := (List.getElem?_eq_some_iff.mp hx).1
      rw [List.length_append, List.length_singleton] at hi
      have e : i = rs.length := by omega
      subst e
      rw [List.getElem?_append_right (Nat.le_refl _), Nat.sub_self] at hx
      cases hx
      refine h2.cong hA (fun k hk => ?_)
      rw [hY2]
      unfold cpP
      rw [if_pos (by omega), Nat.add_sub_cancel_left]
  · exact ⟨rfl, fun a ha => hYo a (by omega) (by omega), fun _ _ => rfl⟩
theorem m_keep (h : MX Sh M μ z rs buf) (hA : WL z.1 z.2.2.1) (hR : ∀ x ∈ rs, WL x.1 x.2.2.1) (hn : 20000 < n) : ∃ M', fX7_keep n Sh M μ = some M' ∧ MX Sh M' μ z (kpR rs z) buf ∧ FM μ M M' ∧ M'.1 μ 5 = M.1 μ 5 := by
  unfold fX7_keep fX7_keep_49 kpR
  obtain ⟨h1, h2, ⟨h3, h4, h5⟩, h6⟩ := id h
  simp only [tI_of, h3]
  by_cases c : rs.length < 5
  · rw [if_neg (show ¬ nI rs.length = 5 from fun z => by have := nI_inj (b := 5) (by omega) (by decide) z; omega), if_pos c]
    obtain ⟨M', e, r, f, k5, -⟩ := m_keep51 (n := n) h hA hR c hn
    exact ⟨M', e, r, f, k5⟩
  · have e5 : rs.length = 5 := by omega
    rw [if_pos (show nI rs.length = 5 by rw [e5]; rfl), if_neg c]
    unfold fX7_keep_10
    let X : Nat → Mm := fun k => wI M (μ + 2) (dnP k (M.1 (μ + 2)))
    have hX1 : ∀ k a, a ≠ μ + 2 → (X k).1 a = M.1 a := fun k a ha => wI_off ha
    have hX2 : ∀ k, (X k).1 (μ + 2) = dnP k (M.1 (μ + 2)) := fun k => wI_same
    have hY : MX Sh (uI (X 13620) μ 2 (nI 4)) μ z (rs.drop 1) buf := by
      refine ⟨h1, by rw [uI_off (by omega), hX1 _ _ (by omega)]; exact h2, ⟨by rw [uI_same, List.length_drop, e5], by rw [List.length_drop]; omega, fun i x hx => ?_⟩, by rw [uI_row (by decide), hX1 _ _ (by omega)]; exact h6.1, h6.2.1, fun k hk => by rw [uI_off (by omega), hX1 _ _ (by omega)]; exact h6.2.2 k hk⟩
      have hi := (List.getElem?_eq_some_iff.mp hx).1
      rw [List.length_drop] at hi
      rw [List.getElem?_drop, Nat.add_comm] at hx
      refine (h5 (i + 1) x hx).cong (hR x (List.mem_of_getElem? hx)) (fun k hk => ?_)
      rw [uI_off (by omega), hX2]
      unfold dnP
      rw [if_pos (by omega)]
      show _ = M.1 (μ + 2) (3405 * (i + 1) + k)
      rw [show 3405 * i + k + 3405 = 3405 * (i + 1) + k from by omega]
    obtain ⟨M', e, r, f, k5, -⟩ := m_keep51 (n := n) hY hA (fun x hx => hR x (List.mem_of_mem_drop hx)) (by rw [List.length_drop]; omega) hn
    have f0 : FM μ M (uI (X 13620) μ 2 (nI 4)) := ⟨rfl, fun a ha => by rw [uI_off (by omega), hX1 _ _ (by omega)], fun _ _ => rfl⟩
    refine ⟨M', iter_seq (N := 13620) (fun k => (nI k, X k)) (fun k hk => ?_) ?_ (by omega) (by show _ = (nI 0, wI M (μ + 2) _); rw [dn_0, wI_self]; rfl), r, f0.tr f, by rw [k5, uI_row (by decide), hX1 _ _ (by omega)]⟩
    · unfold fX7_keep_10b
      dsimp only
      rw [if_pos (show nI k < 13620 from (nI_ltI (b := 13620) (by omega) (by decide)).mpr hk), tF_of (show (X k).2.1 μ 1 = some (μ + 2) from h1.2.1.2.1), tF_of (show (X k).2.1 μ 1 = some (μ + 2) from h1.2.1.2.1)]
      rw [show nI k + (3405 : Int32) = nI (k + 3405) from nI_addm k 3405, aI_nI h1.2.2.2.1 (by omega) (by decide), hX2, sI_nI h1.2.2.2.1 (by omega) (by decide), nI_add1]
      have e1 : uI (X k) (μ + 2) k (dnP k (M.1 (μ + 2)) (k + 3405)) = X (k + 1) := by
        show uI (wI M (μ + 2) _) (μ + 2) _ _ = wI M (μ + 2) _
        rw [wI_upd, show dnP k (M.1 (μ + 2)) (k + 3405) = M.1 (μ + 2) (k + 3405) from if_neg (by omega), dn_step]
      rw [e1]
    · unfold fX7_keep_10b fX7_keep_39 fX7_keep_49
      dsimp only
      rw [if_neg (show ¬ nI 13620 < 13620 by decide)]
      simp only [tI_of, qI_of, hX1 13620 μ (by omega), h3, e5]
      rw [show nI 5 - 1 = nI 4 from rfl, e]
      rfl
theorem m_undo (h : MX Sh M μ z (rs ++ [y]) buf) (hy : WL y.1 y.2.2.1) (hn : 20000 < n) : ∃ M', fX7_undo n Sh M μ = some (nI rs.length, M') ∧ M'.1 μ 5 = 0 ∧ MX Sh M' μ y rs buf ∧ FM μ M M' := by
  obtain ⟨h1, h2, ⟨h3, h4, h5⟩, h6⟩ := h
  rw [List.length_append, List.length_singleton] at h3 h4
  unfold fX7_undo fX7_undo_13
  simp only [tI_of, h3]
  rw [if_neg (show ¬ nI (rs.length + 1) = 0 from fun z => by have := nI_inj (b := 0) (by omega) (by decide) z; omega), pI_of h1.1]
  simp only [uI_same, uI_row (M := M) (a := μ) (j := 2) (k := 5) (v := 0) (by decide), h3, if_true, qI_of, nI_sub1 (show 0 < rs.length + 1 by omega), Nat.add_sub_cancel]
  unfold fX7_undo_37
  let N : Mm := uI (uI M μ 5 0) μ 2 (nI rs.length)
  have hN : ∀ a, a ≠ μ → N.1 a = M.1 a := fun a ha => by
    show (uI (uI M μ 5 0) μ 2 _).1 a = _
    rw [uI_off ha, uI_off ha]
  have hN2 : N.1 μ 2 = nI rs.length := uI_same
  have hN5 : N.1 μ 5 = 0 := by
    show (uI (uI M μ 5 0) μ 2 _).1 μ 5 = _
    rw [uI_row (by decide), uI_same]
  have hN4 : N.1 μ 4 = M.1 μ 4 := by
    show (uI (uI M μ 5 0) μ 2 _).1 μ 4 = _
    rw [uI_row (by decide), uI_row (by decide)]
  have hNR : N.2 = M.2 := rfl
  show ∃ M', iter n _ (0, N) = _ ∧ _
  let X : Nat → Mm := fun k => wI N (μ + 1) (cpP 0 k (fun i => N.1 (μ + 2) (3405 * rs.length + i)) (N.1 (μ + 1)))
  have hX1 : ∀ k a, a ≠ μ + 1 → (X k).1 a = N.1 a := fun k a ha => wI_off ha
  have hX2 : ∀ k, (X k).1 (μ + 1) = cpP 0 k (fun i => N.1 (μ + 2) (3405 * rs.length + i)) (N.1 (μ + 1)) := fun k => wI_same
  refine ⟨X 3405, iter_seq (N := 3405) (fun k => (nI k, X k)) (fun k hk => ?_) ?_ (by omega) (by show _ = (nI 0, wI N (μ + 1) _); rw [cp_0, wI_self]; rfl), by rw [hX1 _ _ (by omega)]; exact hN5, ?_, ⟨rfl, fun a ha => by rw [hX1 _ _ (by omega), hN _ (by omega)], fun _ _ => rfl⟩⟩
  · unfold fX7_undo_37b
    dsimp only
    rw [if_pos (show nI k < 3405 from (nI_ltI (b := 3405) (by omega) (by decide)).mpr hk), tF_of (show (X k).2.1 μ 0 = some (μ + 1) from h1.2.1.1), tF_of (show (X k).2.1 μ 1 = some (μ + 2) from h1.2.1.2.1)]
    simp only [tI_of, hX1 k μ (by omega), hN2]
    rw [show (3405 : Int32) * nI rs.length + nI k = nI (3405 * rs.length + k) from by rw [show (3405 : Int32) = nI 3405 from rfl, nI_mulm, nI_addm], aI_nI h1.2.2.2.1 (by omega) (by decide), hX1 k (μ + 2) (by omega), sI_nI h1.2.2.1 hk (by decide), nI_add1]
    have e1 : uI (X k) (μ + 1) k (N.1 (μ + 2) (3405 * rs.length + k)) = X (k + 1) := by
      show uI (wI N (μ + 1) _) (μ + 1) _ _ = wI N (μ + 1) _
      have := cp_step (b := 0) (k := k) (g := fun i => N.1 (μ + 2) (3405 * rs.length + i)) (f := N.1 (μ + 1))
      rw [Nat.zero_add] at this
      rw [wI_upd, this]
    rw [e1]
  · unfold fX7_undo_37b fX7_undo_71
    dsimp only
    rw [if_neg (show ¬ nI 3405 < 3405 by decide)]
    simp only [tI_of, hX1 3405 μ (by omega), hN2]
    rfl
  · refine ⟨h1, ?_, ⟨by rw [hX1 _ _ (by omega)]; exact hN2, by omega, fun i x hx => ?_⟩, by rw [hX1 _ _ (by omega), hN4]; exact h6.1, h6.2.1, fun k hk => by rw [hX1 _ _ (by omega), hN _ (by omega)]; exact h6.2.2 k hk⟩
    · refine (h5 rs.length y (by rw [List.getElem?_append_right (Nat.le_refl _), Nat.sub_self]; rfl)).cong hy (fun k hk => ?_)
      rw [hX2]
      unfold cpP
      rw [if_pos (by omega), Nat.sub_zero, hN _ (by omega)]
    · have hi := (List.getElem?_eq_some_iff.mp hx).1
      have := h5 i x (by rw [List.getElem?_append_left hi]; exact hx)
      rw [hX1 _ _ (by omega), hN _ (by omega)]
      exact this
theorem m_undo0 (h : MX Sh M μ z [] buf) : ∃ M', fX7_undo n Sh M μ = some (0, M') ∧ M'.1 μ 5 = 1 ∧ MX Sh M' μ z [] buf ∧ FM μ M M' := by
  unfold fX7_undo fX7_undo_13
  have h3 : M.1 μ 2 = 0 := h.2.2.1.1
  simp only [tI_of, h3]
  rw [if_pos trivial, pI_of h.1.1, uI_same, if_neg (by decide)]
  exact ⟨_, rfl, uI_same, h.c5 1, FM.u (by omega)⟩
end MSTATE
