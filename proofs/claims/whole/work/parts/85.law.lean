/-! ===== LEVEL 2: the law's rounds ===== -/
/-- both sides hold the same -/
def ST (Sh : Sp) (M : Mm) (B c : Nat) : Prop := ∃ z rs buf, CX Sh M B z rs buf ∧ MX Sh M (B + 833) z rs buf ∧ SIall c z rs
def GD (Sh : Sp) (B c : Nat) (q : Option (Mm ⊕ Int32)) : Prop := ∃ M', q = some (.inl M') ∧ ST Sh M' B c
def GB (Sh : Sp) (B c : Nat) (i : Int32) (q : Option ((Int32 × Mm) ⊕ Int32)) : Prop := ∃ M', q = some (.inl (i + 4, M')) ∧ ST Sh M' B c
theorem GD.cont {Sh : Sp} {B c : Nat} {i : Int32} {q : Option (Mm ⊕ Int32)} (h : GD Sh B c q) : GB Sh B c i (cont i q) := by
  obtain ⟨M', rfl, h⟩ := h
  exact ⟨M', rfl, h⟩
theorem GB.ite {Sh : Sp} {B c : Nat} {i : Int32} {P : Prop} [Decidable P] {a b : Option ((Int32 × Mm) ⊕ Int32)} (h1 : GB Sh B c i a) (h2 : GB Sh B c i b) : GB Sh B c i (if P then a else b) := by
  by_cases h : P
  · rw [if_pos h]; exact h1
  · rw [if_neg h]; exact h2
section LAW
variable {Sh : Sp} {M N M' N' : Mm} {B c n : Nat} {z : Sc} {rs : List Sc} {buf : List Int32} {fM : Mm → Option (Int32 × Mm)} {hs : List (String × Int32)}
theorem sL_0 {ρ : Type} {a : Nat} {w : Int64} {K : Mm → Option ρ} (hO : Sh a = some (.inr (2, 1))) : sL Sh M a 0 w K = K (uL M a 0 w) := by
  unfold sL
  rw [show (0 : Int32) = nI 0 from rfl, chk_pos (okA_nI hO (by decide) (by decide)), nI_clamp (by decide)]
theorem aL_0 {ρ : Type} {a : Nat} {K : Int64 → Option ρ} (hO : Sh a = some (.inr (2, 1))) : aL Sh M a 0 K = K (M.2.2 a 0) := aL_nI hO (by decide) (by decide)
theorem Ag.mx (f : Ag (CR B) M M') (h : MX Sh M (B + 833) z rs buf) : MX Sh M' (B + 833) z rs buf := h.fr (fun a h1 h2 => f.2 a (by unfold CR; omega))
theorem FM.cx (f : FM (B + 833) M M') (h : CX Sh M B z rs buf) : CX Sh M' B z rs buf := h.fr (fun a h1 h2 => ⟨f.2.1 a (by omega), by rw [f.1]⟩)
theorem CX.sh (h : CX Sh M B z rs buf) : Sh B = some (.inl 6) := h.1.1
theorem CX.b8 (h : CX Sh M B z rs buf) : buf.length ≤ 8 := h.2.2.2.2.1.2.2.2.2.1
theorem OP.run {fX : Mm → Option ((String ⊕ Int32) × Mm)} (h : OP Sh B c z rs buf fX fM hs) (hC : CX Sh M B z rs buf) (hM : MX Sh M (B + 833) z rs buf) : (∃ E M1 k r N, fX M = some (.inl E, M1) ∧ wx E M1 hs = some (k, M1) ∧ k ≠ 0 ∧ fM M1 = some (r, N) ∧ N.1 (B + 833) 5 = k ∧ ST Sh N B (c + 1)) ∨ (∃ v M1, fX M = some (.inr v, M1) ∧ ∀ w : Int64, ∃ N, fM (uL M1 (B + 840) 0 w) = some (v, N) ∧ N.1 (B + 833) 5 = 0 ∧ N.2.2 (B + 840) 0 = w ∧ ST Sh N B (c + 1)) := by
  obtain ⟨k, v, z', rs', buf', h1, h2, h3⟩ := h
  rcases h1 M hC with ⟨E, M1, e1, e2, e3, e4, e5⟩ | ⟨M1, e1, rfl, e4, e5⟩
  · obtain ⟨r, N, g1, g2, g3, g4, g5⟩ := h2 M1 (e5.mx hM)
    exact Or.inl ⟨E, M1, k, r, N, e1, e2, e3, g1, g2, z', rs', buf', g5.cx e4, g4, h3⟩
  · refine Or.inr ⟨v, M1, e1, fun w => ?_⟩
    have k1 : MX Sh (uL M1 (B + 840) 0 w) (B + 833) z rs buf := e5.mx hM
    have k2 : CX Sh (uL M1 (B + 840) 0 w) B z' rs' buf' := e4
    obtain ⟨r, N, g1, g2, g3, g4, g5⟩ := h2 _ k1
    obtain rfl := g3 rfl
    exact ⟨N, g1, g2, by rw [g5.2.2 _ (by omega)]; exact uL_same, z', rs', buf', g5.cx k2, g4, h3⟩
theorem step_OP {fX : Mm → Option ((String ⊕ Int32) × Mm)} (h : OP Sh B c z rs buf fX fM hs) (hC : CX Sh M B z rs buf) (hM : MX Sh M (B + 833) z rs buf) (hO : Sh (B + 840) = some (.inr (2, 1))) : GD Sh B (c + 1) ((wb (fX M) hs fun v M1 => sL Sh M1 (B + 840) 0 (Int32.toInt64 v) fun M2 => some (0, M2)).bind fun r => (fM r.2).bind fun q => (fX7_thrown n Sh q.2 (B + 833)).bind fun t => if t = r.1 then if r.1 = 0 then aL Sh q.2 (B + 840) 0 fun y => if (y : Int64) = Int32.toInt64 q.1 then some (Sum.inl q.2) else some (Sum.inr 0) else some (Sum.inl q.2) else some (Sum.inr 0)) := by
  rcases h.run hC hM with ⟨E, M1, k, r, N, e1, e2, e3, e4, e5, e6⟩ | ⟨v, M1, e1, h⟩
  · rw [e1]
    refine ⟨N, ?_, e6⟩
    show (wx E M1 hs).bind _ = _
    rw [e2, bindS, bind_of e4, show fX7_thrown n Sh N (B + 833) = some (N.1 (B + 833) 5) from rfl, bindS, if_pos e5, if_neg e3]
  · obtain ⟨N, e4, e5, e7, e6⟩ := h (Int32.toInt64 v)
    rw [e1]
    refine ⟨N, ?_, e6⟩
    show (sL Sh M1 (B + 840) 0 (Int32.toInt64 v) fun M2 => some (0, M2)).bind _ = _
    rw [sL_0 hO, bindS, bind_of e4, show fX7_thrown n Sh N (B + 833) = some (N.1 (B + 833) 5) from rfl, bindS, if_pos e5, if_pos rfl, aL_0 hO, if_pos e7]
theorem step_F {fX : Mm → Option ((String ⊕ Int32) × Mm)} (h : OP Sh B c z rs buf fX fM hs) (hC : CX Sh M B z rs buf) (hM : MX Sh M (B + 833) z rs buf) (hO : Sh (B + 840) = some (.inr (2, 1))) : GD Sh B (c + 1) ((wb (fX M) hs fun v M1 => if v = 0 then sL Sh M1 (B + 840) 0 0 fun M2 => some (0, M2) else sL Sh M1 (B + 840) 0 1 fun M2 => some (0, M2)).bind fun r => (fM r.2).bind fun q => (fX7_thrown n Sh q.2 (B + 833)).bind fun t => if t = r.1 then if r.1 = 0 then aL Sh q.2 (B + 840) 0 fun y => if q.1 = 0 then if (y : Int64) = 0 then some (Sum.inl q.2) else some (Sum.inr 0) else if (y : Int64) = 1 then some (Sum.inl q.2) else some (Sum.inr 0) else some (Sum.inl q.2) else some (Sum.inr 0)) := by
  rcases h.run hC hM with ⟨E, M1, k, r, N, e1, e2, e3, e4, e5, e6⟩ | ⟨v, M1, e1, h⟩
  · rw [e1]
    refine ⟨N, ?_, e6⟩
    show (wx E M1 hs).bind _ = _
    rw [e2, bindS, bind_of e4, show fX7_thrown n Sh N (B + 833) = some (N.1 (B + 833) 5) from rfl, bindS, if_pos e5, if_neg e3]
  · rw [e1]
    show GD Sh B (c + 1) ((if v = 0 then sL Sh M1 (B + 840) 0 0 fun M2 => some (0, M2) else sL Sh M1 (B + 840) 0 1 fun M2 => some (0, M2)).bind _)
    by_cases hv : v = 0
    · obtain ⟨N, e4, e5, e7, e6⟩ := h 0
      refine ⟨N, ?_, e6⟩
      rw [if_pos hv, sL_0 hO, bindS, bind_of e4, show fX7_thrown n Sh N (B + 833) = some (N.1 (B + 833) 5) from rfl, bindS, if_pos e5, if_pos rfl, aL_0 hO, if_pos hv, if_pos e7]
    · obtain ⟨N, e4, e5, e7, e6⟩ := h 1
      refine ⟨N, ?_, e6⟩
      rw [if_neg hv, sL_0 hO, bindS, bind_of e4, show fX7_thrown n Sh N (B + 833) = some (N.1 (B + 833) 5) from rfl, bindS, if_pos e5, if_pos rfl, aL_0 hO, if_neg hv, if_pos e7]
theorem step_OPV {fX : Mm → Option (Int32 × Mm)} (h : OPV Sh B c z rs buf fX fM) (hC : CX Sh M B z rs buf) (hM : MX Sh M (B + 833) z rs buf) : GD Sh B (c + 1) ((fX M).bind fun r => (fM r.2).bind fun q => if r.1 = q.1 then some (Sum.inl q.2) else some (Sum.inr 0)) := by
  obtain ⟨v, z', rs', buf', h1, h2, h3⟩ := h
  obtain ⟨M1, e1, e2, e3⟩ := h1 M hC
  obtain ⟨N, e4, e5, e6⟩ := h2 M1 (e3.mx hM)
  exact ⟨N, by rw [bind_of e1, bind_of e4, if_pos rfl], z', rs', buf', e6.cx e2, e5, h3⟩
theorem step_OPL {fX fM : Mm → Option (Int64 × Mm)} (h : OPL Sh B c z rs buf fX fM) (hC : CX Sh M B z rs buf) (hM : MX Sh M (B + 833) z rs buf) : GD Sh B (c + 1) ((fX M).bind fun r => (fM r.2).bind fun q => if (r.1 : Int64) = q.1 then some (Sum.inl q.2) else some (Sum.inr 0)) := by
  obtain ⟨v, z', rs', buf', h1, h2, h3⟩ := h
  obtain ⟨M1, e1, e2, e3⟩ := h1 M hC
  obtain ⟨N, e4, e5, e6⟩ := h2 M1 (e3.mx hM)
  exact ⟨N, by rw [bind_of e1, bind_of e4, if_pos rfl], z', rs', buf', e6.cx e2, e5, h3⟩
theorem step_OP0 {gX : Mm → Option Int32} (h : OPV Sh B c z rs buf (fun M => (gX M).map fun v => (v, M)) fM) (hC : CX Sh M B z rs buf) (hM : MX Sh M (B + 833) z rs buf) : GD Sh B (c + 1) ((gX M).bind fun r => (fM M).bind fun q => if r = q.1 then some (Sum.inl q.2) else some (Sum.inr 0)) := by
  obtain ⟨v, z', rs', buf', h1, h2, h3⟩ := h
  obtain ⟨M1, e1, e2, e3⟩ := h1 M hC
  obtain ⟨v', e7, e8⟩ := mS2 e1
  obtain ⟨rfl, rfl⟩ := Prod.mk.inj e8
  obtain ⟨N, e4, e5, e6⟩ := h2 M1 hM
  exact ⟨N, by rw [bind_of e7, bind_of e4, if_pos rfl], z', rs', buf', e6.cx e2, e5, h3⟩
end LAW
section LAW2
variable {Sh : Sp} {M : Mm} {B c n L : Nat} {z : Sc} {rs : List Sc} {buf : List Int32} {xs : Nat → Int32} {i a b d : Int32}
theorem st_c0 (hC : CX Sh M B z rs buf) (hM : MX Sh M (B + 833) z rs buf) (hI : SIall c z rs) (hn : 20000 < n) (hc : c < 1000) (hO : Sh (B + 840) = some (.inr (2, 1))) (s1 : ∀ K : Int32 → Option (Mm ⊕ Int32), scr xs L (i + 1) K = K a) (s2 : ∀ K : Int32 → Option (Mm ⊕ Int32), scr xs L (i + 2) K = K b) (s3 : ∀ K : Int32 → Option (Mm ⊕ Int32), scr xs L (i + 3) K = K d) : GD Sh B (c + 1) (fL_c0 n Sh xs L B (B + 833) (B + 840) i M) := by
  unfold fL_c0 fL_create
  simp only [s1, s2, s3, chk_pos hC.sh]
  exact step_OP (op_create (n := n) hI hn a b d) hC hM hO
theorem st_c1 (hC : CX Sh M B z rs buf) (hM : MX Sh M (B + 833) z rs buf) (hI : SIall c z rs) (hn : 20000 < n) (hc : c < 1000) (hO : Sh (B + 840) = some (.inr (2, 1))) (s1 : ∀ K : Int32 → Option (Mm ⊕ Int32), scr xs L (i + 1) K = K a) (s2 : ∀ K : Int32 → Option (Mm ⊕ Int32), scr xs L (i + 2) K = K b) (s3 : ∀ K : Int32 → Option (Mm ⊕ Int32), scr xs L (i + 3) K = K d) : GD Sh B (c + 1) (fL_c1 n Sh xs L B (B + 833) (B + 840) i M) := by
  unfold fL_c1 fL_remove
  simp only [s1, chk_pos hC.sh]
  exact step_OP (op_remove (n := n) hI hn a) hC hM hO
theorem st_c2 (hC : CX Sh M B z rs buf) (hM : MX Sh M (B + 833) z rs buf) (hI : SIall c z rs) (hn : 20000 < n) (hc : c < 1000) (hO : Sh (B + 840) = some (.inr (2, 1))) (s1 : ∀ K : Int32 → Option (Mm ⊕ Int32), scr xs L (i + 1) K = K a) (s2 : ∀ K : Int32 → Option (Mm ⊕ Int32), scr xs L (i + 2) K = K b) (s3 : ∀ K : Int32 → Option (Mm ⊕ Int32), scr xs L (i + 3) K = K d) : GD Sh B (c + 1) (fL_c2 n Sh xs L B (B + 833) (B + 840) i M) := by
  unfold fL_c2 fL_move
  simp only [s1, s2, s3, chk_pos hC.sh]
  exact step_OP (op_move (n := n) hI hn a b d) hC hM hO
theorem st_c3 (hC : CX Sh M B z rs buf) (hM : MX Sh M (B + 833) z rs buf) (hI : SIall c z rs) (hn : 20000 < n) (hc : c < 1000) (hO : Sh (B + 840) = some (.inr (2, 1))) (s1 : ∀ K : Int32 → Option (Mm ⊕ Int32), scr xs L (i + 1) K = K a) (s2 : ∀ K : Int32 → Option (Mm ⊕ Int32), scr xs L (i + 2) K = K b) (s3 : ∀ K : Int32 → Option (Mm ⊕ Int32), scr xs L (i + 3) K = K d) : GD Sh B (c + 1) (fL_c3 n Sh xs L B (B + 833) (B + 840) i M) := by
  unfold fL_c3
  exact step_OP0 (op_nodes (n := n) hI hn) hC hM
theorem st_c4 (hC : CX Sh M B z rs buf) (hM : MX Sh M (B + 833) z rs buf) (hI : SIall c z rs) (hn : 20000 < n) (hc : c < 1000) (hO : Sh (B + 840) = some (.inr (2, 1))) (s1 : ∀ K : Int32 → Option (Mm ⊕ Int32), scr xs L (i + 1) K = K a) (s2 : ∀ K : Int32 → Option (Mm ⊕ Int32), scr xs L (i + 2) K = K b) (s3 : ∀ K : Int32 → Option (Mm ⊕ Int32), scr xs L (i + 3) K = K d) : GD Sh B (c + 1) (fL_c4 n Sh xs L B (B + 833) (B + 840) i M) := by
  unfold fL_c4 fL_info
  simp only [s1, s2, chk_pos hC.sh]
  exact step_OP (op_info (n := n) hI hn a b) hC hM hO
theorem st_c5 (hC : CX Sh M B z rs buf) (hM : MX Sh M (B + 833) z rs buf) (hI : SIall c z rs) (hn : 20000 < n) (hc : c < 1000) (hO : Sh (B + 840) = some (.inr (2, 1))) (s1 : ∀ K : Int32 → Option (Mm ⊕ Int32), scr xs L (i + 1) K = K a) (s2 : ∀ K : Int32 → Option (Mm ⊕ Int32), scr xs L (i + 2) K = K b) (s3 : ∀ K : Int32 → Option (Mm ⊕ Int32), scr xs L (i + 3) K = K d) : GD Sh B (c + 1) (fL_c5 n Sh xs L B (B + 833) (B + 840) i M) := by
  unfold fL_c5 fL_child
  simp only [s1, s2, chk_pos hC.sh]
  exact step_OP (op_child (n := n) hI hn a b) hC hM hO
theorem st_c6 (hC : CX Sh M B z rs buf) (hM : MX Sh M (B + 833) z rs buf) (hI : SIall c z rs) (hn : 20000 < n) (hc : c < 1000) (hO : Sh (B + 840) = some (.inr (2, 1))) (s1 : ∀ K : Int32 → Option (Mm ⊕ Int32), scr xs L (i + 1) K = K a) (s2 : ∀ K : Int32 → Option (Mm ⊕ Int32), scr xs L (i + 2) K = K b) (s3 : ∀ K : Int32 → Option (Mm ⊕ Int32), scr xs L (i + 3) K = K d) : GD Sh B (c + 1) (fL_c6 n Sh xs L B (B + 833) (B + 840) i M) := by
  unfold fL_c6 fL_set
  simp only [s1, s2, s3, chk_pos hC.sh]
  exact step_OP (op_set (n := n) hI hn a b d) hC hM hO
theorem st_c7 (hC : CX Sh M B z rs buf) (hM : MX Sh M (B + 833) z rs buf) (hI : SIall c z rs) (hn : 20000 < n) (hc : c < 1000) (hO : Sh (B + 840) = some (.inr (2, 1))) (s1 : ∀ K : Int32 → Option (Mm ⊕ Int32), scr xs L (i + 1) K = K a) (s2 : ∀ K : Int32 → Option (Mm ⊕ Int32), scr xs L (i + 2) K = K b) (s3 : ∀ K : Int32 → Option (Mm ⊕ Int32), scr xs L (i + 3) K = K d) : GD Sh B (c + 1) (fL_c7 n Sh xs L B (B + 833) (B + 840) i M) := by
  unfold fL_c7 fL_setText
  simp only [s1, chk_pos hC.sh]
  exact step_OP (op_setText (n := n) hI hC.b8 hn a) hC hM hO
theorem st_c8 (hC : CX Sh M B z rs buf) (hM : MX Sh M (B + 833) z rs buf) (hI : SIall c z rs) (hn : 20000 < n) (hc : c < 1000) (hO : Sh (B + 840) = some (.inr (2, 1))) (s1 : ∀ K : Int32 → Option (Mm ⊕ Int32), scr xs L (i + 1) K = K a) (s2 : ∀ K : Int32 → Option (Mm ⊕ Int32), scr xs L (i + 2) K = K b) (s3 : ∀ K : Int32 → Option (Mm ⊕ Int32), scr xs L (i + 3) K = K d) : GD Sh B (c + 1) (fL_c8 n Sh xs L B (B + 833) (B + 840) i M) := by
  unfold fL_c8 fL_setLabel
  simp only [s1, chk_pos hC.sh]
  exact step_OP (op_setLabel (n := n) hI hC.b8 hn a) hC hM hO
theorem st_c9 (hC : CX Sh M B z rs buf) (hM : MX Sh M (B + 833) z rs buf) (hI : SIall c z rs) (hn : 20000 < n) (hc : c < 1000) (hO : Sh (B + 840) = some (.inr (2, 1))) (s1 : ∀ K : Int32 → Option (Mm ⊕ Int32), scr xs L (i + 1) K = K a) (s2 : ∀ K : Int32 → Option (Mm ⊕ Int32), scr xs L (i + 2) K = K b) (s3 : ∀ K : Int32 → Option (Mm ⊕ Int32), scr xs L (i + 3) K = K d) : GD Sh B (c + 1) (fL_c9 n Sh xs L B (B + 833) (B + 840) i M) := by
  unfold fL_c9 fL_setLabelledBy
  simp only [s1, s2, chk_pos hC.sh]
  exact step_OP (op_setLabelledBy (n := n) hI hn a b) hC hM hO
theorem st_c10 (hC : CX Sh M B z rs buf) (hM : MX Sh M (B + 833) z rs buf) (hI : SIall c z rs) (hn : 20000 < n) (hc : c < 1000) (hO : Sh (B + 840) = some (.inr (2, 1))) (s1 : ∀ K : Int32 → Option (Mm ⊕ Int32), scr xs L (i + 1) K = K a) (s2 : ∀ K : Int32 → Option (Mm ⊕ Int32), scr xs L (i + 2) K = K b) (s3 : ∀ K : Int32 → Option (Mm ⊕ Int32), scr xs L (i + 3) K = K d) : GD Sh B (c + 1) (fL_c10 n Sh xs L B (B + 833) (B + 840) i M) := by
  unfold fL_c10 fL_character
  simp only [s1, s2, s3, chk_pos hC.sh]
  exact step_OP (op_character (n := n) hI hn a b d) hC hM hO
theorem st_c11 (hC : CX Sh M B z rs buf) (hM : MX Sh M (B + 833) z rs buf) (hI : SIall c z rs) (hn : 20000 < n) (hc : c < 1000) (hO : Sh (B + 840) = some (.inr (2, 1))) (s1 : ∀ K : Int32 → Option (Mm ⊕ Int32), scr xs L (i + 1) K = K a) (s2 : ∀ K : Int32 → Option (Mm ⊕ Int32), scr xs L (i + 2) K = K b) (s3 : ∀ K : Int32 → Option (Mm ⊕ Int32), scr xs L (i + 3) K = K d) : GD Sh B (c + 1) (fL_c11 n Sh xs L B (B + 833) (B + 840) i M) := by
  unfold fL_c11 fL_length
  simp only [s1, s2, chk_pos hC.sh]
  exact step_OP (op_length (n := n) hI hn a b) hC hM hO
theorem st_c12 (hC : CX Sh M B z rs buf) (hM : MX Sh M (B + 833) z rs buf) (hI : SIall c z rs) (hn : 20000 < n) (hc : c < 1000) (hO : Sh (B + 840) = some (.inr (2, 1))) (s1 : ∀ K : Int32 → Option (Mm ⊕ Int32), scr xs L (i + 1) K = K a) (s2 : ∀ K : Int32 → Option (Mm ⊕ Int32), scr xs L (i + 2) K = K b) (s3 : ∀ K : Int32 → Option (Mm ⊕ Int32), scr xs L (i + 3) K = K d) : GD Sh B (c + 1) (fL_c12 n Sh xs L B (B + 833) (B + 840) i M) := by
  unfold fL_c12
  simp only [s1]
  exact step_OPV (op_inOrder (n := n) hI hn a) hC hM
theorem st_c13 (hC : CX Sh M B z rs buf) (hM : MX Sh M (B + 833) z rs buf) (hI : SIall c z rs) (hn : 20000 < n) (hc : c < 1000) (hO : Sh (B + 840) = some (.inr (2, 1))) (s1 : ∀ K : Int32 → Option (Mm ⊕ Int32), scr xs L (i + 1) K = K a) (s2 : ∀ K : Int32 → Option (Mm ⊕ Int32), scr xs L (i + 2) K = K b) (s3 : ∀ K : Int32 → Option (Mm ⊕ Int32), scr xs L (i + 3) K = K d) : GD Sh B (c + 1) (fL_c13 n Sh xs L B (B + 833) (B + 840) i M) := by
  unfold fL_c13 fL_canFocus
  simp only [s1, chk_pos hC.sh]
  exact step_F (op_canFocus (n := n) hI hn a) hC hM hO
theorem st_c14 (hC : CX Sh M B z rs buf) (hM : MX Sh M (B + 833) z rs buf) (hI : SIall c z rs) (hn : 20000 < n) (hc : c < 1000) (hO : Sh (B + 840) = some (.inr (2, 1))) (s1 : ∀ K : Int32 → Option (Mm ⊕ Int32), scr xs L (i + 1) K = K a) (s2 : ∀ K : Int32 → Option (Mm ⊕ Int32), scr xs L (i + 2) K = K b) (s3 : ∀ K : Int32 → Option (Mm ⊕ Int32), scr xs L (i + 3) K = K d) : GD Sh B (c + 1) (fL_c14 n Sh xs L B (B + 833) (B + 840) i M) := by
  unfold fL_c14
  simp only [s1]
  exact step_OPV (op_focusOrder (n := n) hI hn a) hC hM
theorem st_c15 (hC : CX Sh M B z rs buf) (hM : MX Sh M (B + 833) z rs buf) (hI : SIall c z rs) (hn : 20000 < n) (hc : c < 1000) (hO : Sh (B + 840) = some (.inr (2, 1))) (s1 : ∀ K : Int32 → Option (Mm ⊕ Int32), scr xs L (i + 1) K = K a) (s2 : ∀ K : Int32 → Option (Mm ⊕ Int32), scr xs L (i + 2) K = K b) (s3 : ∀ K : Int32 → Option (Mm ⊕ Int32), scr xs L (i + 3) K = K d) : GD Sh B (c + 1) (fL_c15 n Sh xs L B (B + 833) (B + 840) i M) := by
  unfold fL_c15
  exact step_OP0 (op_focus (n := n) hI hn) hC hM
theorem st_c16 (hC : CX Sh M B z rs buf) (hM : MX Sh M (B + 833) z rs buf) (hI : SIall c z rs) (hn : 20000 < n) (hc : c < 1000) (hO : Sh (B + 840) = some (.inr (2, 1))) (s1 : ∀ K : Int32 → Option (Mm ⊕ Int32), scr xs L (i + 1) K = K a) (s2 : ∀ K : Int32 → Option (Mm ⊕ Int32), scr xs L (i + 2) K = K b) (s3 : ∀ K : Int32 → Option (Mm ⊕ Int32), scr xs L (i + 3) K = K d) : GD Sh B (c + 1) (fL_c16 n Sh xs L B (B + 833) (B + 840) i M) := by
  unfold fL_c16 fL_focusOn
  simp only [s1, chk_pos hC.sh]
  exact step_OP (op_focusOn (n := n) hI hn a) hC hM hO
theorem st_c17 (hC : CX Sh M B z rs buf) (hM : MX Sh M (B + 833) z rs buf) (hI : SIall c z rs) (hn : 20000 < n) (hc : c < 1000) (hO : Sh (B + 840) = some (.inr (2, 1))) (s1 : ∀ K : Int32 → Option (Mm ⊕ Int32), scr xs L (i + 1) K = K a) (s2 : ∀ K : Int32 → Option (Mm ⊕ Int32), scr xs L (i + 2) K = K b) (s3 : ∀ K : Int32 → Option (Mm ⊕ Int32), scr xs L (i + 3) K = K d) : GD Sh B (c + 1) (fL_c17 n Sh xs L B (B + 833) (B + 840) i M) := by
  unfold fL_c17
  simp only [s1]
  by_cases h : a = 0
  · simp only [if_pos h]
    exact step_OPV (op_step (n := n) hI hn false) hC hM
  · simp only [if_neg h]
    exact step_OPV (op_step (n := n) hI hn true) hC hM
theorem st_c18 (hC : CX Sh M B z rs buf) (hM : MX Sh M (B + 833) z rs buf) (hI : SIall c z rs) (hn : 20000 < n) (hc : c < 1000) (hO : Sh (B + 840) = some (.inr (2, 1))) (s1 : ∀ K : Int32 → Option (Mm ⊕ Int32), scr xs L (i + 1) K = K a) (s2 : ∀ K : Int32 → Option (Mm ⊕ Int32), scr xs L (i + 2) K = K b) (s3 : ∀ K : Int32 → Option (Mm ⊕ Int32), scr xs L (i + 3) K = K d) : GD Sh B (c + 1) (fL_c18 n Sh xs L B (B + 833) (B + 840) i M) := by
  unfold fL_c18 fL_open
  simp only [s1, chk_pos hC.sh]
  exact step_OP (op_open (n := n) hI hc hn a) hC hM hO
theorem st_c19 (hC : CX Sh M B z rs buf) (hM : MX Sh M (B + 833) z rs buf) (hI : SIall c z rs) (hn : 20000 < n) (hc : c < 1000) (hO : Sh (B + 840) = some (.inr (2, 1))) (s1 : ∀ K : Int32 → Option (Mm ⊕ Int32), scr xs L (i + 1) K = K a) (s2 : ∀ K : Int32 → Option (Mm ⊕ Int32), scr xs L (i + 2) K = K b) (s3 : ∀ K : Int32 → Option (Mm ⊕ Int32), scr xs L (i + 3) K = K d) : GD Sh B (c + 1) (fL_c19 n Sh xs L B (B + 833) (B + 840) i M) := by
  unfold fL_c19 fL_close
  simp only [s1, chk_pos hC.sh]
  exact step_OP (op_close (n := n) hI hn a) hC hM hO
theorem st_c20 (hC : CX Sh M B z rs buf) (hM : MX Sh M (B + 833) z rs buf) (hI : SIall c z rs) (hn : 20000 < n) (hc : c < 1000) (hO : Sh (B + 840) = some (.inr (2, 1))) (s1 : ∀ K : Int32 → Option (Mm ⊕ Int32), scr xs L (i + 1) K = K a) (s2 : ∀ K : Int32 → Option (Mm ⊕ Int32), scr xs L (i + 2) K = K b) (s3 : ∀ K : Int32 → Option (Mm ⊕ Int32), scr xs L (i + 3) K = K d) : GD Sh B (c + 1) (fL_c20 n Sh xs L B (B + 833) (B + 840) i M) := by
  unfold fL_c20
  exact step_OP0 (op_trap (n := n) hI hn) hC hM
theorem st_c21 (hC : CX Sh M B z rs buf) (hM : MX Sh M (B + 833) z rs buf) (hI : SIall c z rs) (hn : 20000 < n) (hc : c < 1000) (hO : Sh (B + 840) = some (.inr (2, 1))) (s1 : ∀ K : Int32 → Option (Mm ⊕ Int32), scr xs L (i + 1) K = K a) (s2 : ∀ K : Int32 → Option (Mm ⊕ Int32), scr xs L (i + 2) K = K b) (s3 : ∀ K : Int32 → Option (Mm ⊕ Int32), scr xs L (i + 3) K = K d) : GD Sh B (c + 1) (fL_c21 n Sh xs L B (B + 833) (B + 840) i M) := by
  unfold fL_c21 fL_region
  simp only [s1, chk_pos hC.sh]
  exact step_OP (op_region (n := n) hI hn a) hC hM hO
theorem st_c22 (hC : CX Sh M B z rs buf) (hM : MX Sh M (B + 833) z rs buf) (hI : SIall c z rs) (hn : 20000 < n) (hc : c < 1000) (hO : Sh (B + 840) = some (.inr (2, 1))) (s1 : ∀ K : Int32 → Option (Mm ⊕ Int32), scr xs L (i + 1) K = K a) (s2 : ∀ K : Int32 → Option (Mm ⊕ Int32), scr xs L (i + 2) K = K b) (s3 : ∀ K : Int32 → Option (Mm ⊕ Int32), scr xs L (i + 3) K = K d) : GD Sh B (c + 1) (fL_c22 n Sh xs L B (B + 833) (B + 840) i M) := by
  unfold fL_c22
  exact step_OP0 (op_pending (n := n) hI) hC hM
theorem st_c23 (hC : CX Sh M B z rs buf) (hM : MX Sh M (B + 833) z rs buf) (hI : SIall c z rs) (hn : 20000 < n) (hc : c < 1000) (hO : Sh (B + 840) = some (.inr (2, 1))) (s1 : ∀ K : Int32 → Option (Mm ⊕ Int32), scr xs L (i + 1) K = K a) (s2 : ∀ K : Int32 → Option (Mm ⊕ Int32), scr xs L (i + 2) K = K b) (s3 : ∀ K : Int32 → Option (Mm ⊕ Int32), scr xs L (i + 3) K = K d) : GD Sh B (c + 1) (fL_c23 n Sh xs L B (B + 833) (B + 840) i M) := by
  unfold fL_c23 fL_announcement
  simp only [s1, s2, chk_pos hC.sh]
  exact step_OP (op_announcement (n := n) hI a b) hC hM hO
theorem st_c24 (hC : CX Sh M B z rs buf) (hM : MX Sh M (B + 833) z rs buf) (hI : SIall c z rs) (hn : 20000 < n) (hc : c < 1000) (hO : Sh (B + 840) = some (.inr (2, 1))) (s1 : ∀ K : Int32 → Option (Mm ⊕ Int32), scr xs L (i + 1) K = K a) (s2 : ∀ K : Int32 → Option (Mm ⊕ Int32), scr xs L (i + 2) K = K b) (s3 : ∀ K : Int32 → Option (Mm ⊕ Int32), scr xs L (i + 3) K = K d) : GD Sh B (c + 1) (fL_c24 n Sh xs L B (B + 833) (B + 840) i M) := by
  unfold fL_c24
  simp only [s1, s2]
  exact step_OP0 (op_announced (n := n) hI a b) hC hM
theorem st_c25 (hC : CX Sh M B z rs buf) (hM : MX Sh M (B + 833) z rs buf) (hI : SIall c z rs) (hn : 20000 < n) (hc : c < 1000) (hO : Sh (B + 840) = some (.inr (2, 1))) (s1 : ∀ K : Int32 → Option (Mm ⊕ Int32), scr xs L (i + 1) K = K a) (s2 : ∀ K : Int32 → Option (Mm ⊕ Int32), scr xs L (i + 2) K = K b) (s3 : ∀ K : Int32 → Option (Mm ⊕ Int32), scr xs L (i + 3) K = K d) : GD Sh B (c + 1) (fL_c25 n Sh xs L B (B + 833) (B + 840) i M) := by
  unfold fL_c25
  exact step_OPV (op_speak (n := n) hI hn) hC hM
theorem st_c26 (hC : CX Sh M B z rs buf) (hM : MX Sh M (B + 833) z rs buf) (hI : SIall c z rs) (hn : 20000 < n) (hc : c < 1000) (hO : Sh (B + 840) = some (.inr (2, 1))) (s1 : ∀ K : Int32 → Option (Mm ⊕ Int32), scr xs L (i + 1) K = K a) (s2 : ∀ K : Int32 → Option (Mm ⊕ Int32), scr xs L (i + 2) K = K b) (s3 : ∀ K : Int32 → Option (Mm ⊕ Int32), scr xs L (i + 3) K = K d) : GD Sh B (c + 1) (fL_c26 n Sh xs L B (B + 833) (B + 840) i M) := by
  unfold fL_c26
  simp only [s1]
  exact step_OP0 (op_spoken (n := n) hI a) hC hM
theorem st_c27 (hC : CX Sh M B z rs buf) (hM : MX Sh M (B + 833) z rs buf) (hI : SIall c z rs) (hn : 20000 < n) (hc : c < 1000) (hO : Sh (B + 840) = some (.inr (2, 1))) (s1 : ∀ K : Int32 → Option (Mm ⊕ Int32), scr xs L (i + 1) K = K a) (s2 : ∀ K : Int32 → Option (Mm ⊕ Int32), scr xs L (i + 2) K = K b) (s3 : ∀ K : Int32 → Option (Mm ⊕ Int32), scr xs L (i + 3) K = K d) : GD Sh B (c + 1) (fL_c27 n Sh xs L B (B + 833) (B + 840) i M) := by
  unfold fL_c27
  exact step_OPV (op_silence (n := n) hI hn) hC hM
theorem st_c28 (hC : CX Sh M B z rs buf) (hM : MX Sh M (B + 833) z rs buf) (hI : SIall c z rs) (hn : 20000 < n) (hc : c < 1000) (hO : Sh (B + 840) = some (.inr (2, 1))) (s1 : ∀ K : Int32 → Option (Mm ⊕ Int32), scr xs L (i + 1) K = K a) (s2 : ∀ K : Int32 → Option (Mm ⊕ Int32), scr xs L (i + 2) K = K b) (s3 : ∀ K : Int32 → Option (Mm ⊕ Int32), scr xs L (i + 3) K = K d) : GD Sh B (c + 1) (fL_c28 n Sh xs L B (B + 833) (B + 840) i M) := by
  unfold fL_c28 fL_cellPlace
  simp only [s1, s2, chk_pos hC.sh]
  by_cases h : b = 0
  · simp only [if_pos h]
    exact step_OP (op_cellPlace (n := n) hI hn a false) hC hM hO
  · simp only [if_neg h]
    exact step_OP (op_cellPlace (n := n) hI hn a true) hC hM hO
theorem st_c29 (hC : CX Sh M B z rs buf) (hM : MX Sh M (B + 833) z rs buf) (hI : SIall c z rs) (hn : 20000 < n) (hc : c < 1000) (hO : Sh (B + 840) = some (.inr (2, 1))) (s1 : ∀ K : Int32 → Option (Mm ⊕ Int32), scr xs L (i + 1) K = K a) (s2 : ∀ K : Int32 → Option (Mm ⊕ Int32), scr xs L (i + 2) K = K b) (s3 : ∀ K : Int32 → Option (Mm ⊕ Int32), scr xs L (i + 3) K = K d) : GD Sh B (c + 1) (fL_c29 n Sh xs L B (B + 833) (B + 840) i M) := by
  unfold fL_c29 fL_cellAt
  simp only [s1, s2, s3, chk_pos hC.sh]
  exact step_OP (op_cellAt (n := n) hI hn a b d) hC hM hO
theorem st_c30 (hC : CX Sh M B z rs buf) (hM : MX Sh M (B + 833) z rs buf) (hI : SIall c z rs) (hn : 20000 < n) (hc : c < 1000) (hO : Sh (B + 840) = some (.inr (2, 1))) (s1 : ∀ K : Int32 → Option (Mm ⊕ Int32), scr xs L (i + 1) K = K a) (s2 : ∀ K : Int32 → Option (Mm ⊕ Int32), scr xs L (i + 2) K = K b) (s3 : ∀ K : Int32 → Option (Mm ⊕ Int32), scr xs L (i + 3) K = K d) : GD Sh B (c + 1) (fL_c30 n Sh xs L B (B + 833) (B + 840) i M) := by
  unfold fL_c30 fL_header
  simp only [s1, s2, chk_pos hC.sh]
  by_cases h : b = 0
  · simp only [if_pos h]
    exact step_OP (op_header (n := n) hI hn a false) hC hM hO
  · simp only [if_neg h]
    exact step_OP (op_header (n := n) hI hn a true) hC hM hO
theorem st_c31 (hC : CX Sh M B z rs buf) (hM : MX Sh M (B + 833) z rs buf) (hI : SIall c z rs) (hn : 20000 < n) (hc : c < 1000) (hO : Sh (B + 840) = some (.inr (2, 1))) (s1 : ∀ K : Int32 → Option (Mm ⊕ Int32), scr xs L (i + 1) K = K a) (s2 : ∀ K : Int32 → Option (Mm ⊕ Int32), scr xs L (i + 2) K = K b) (s3 : ∀ K : Int32 → Option (Mm ⊕ Int32), scr xs L (i + 3) K = K d) : GD Sh B (c + 1) (fL_c31 n Sh xs L B (B + 833) (B + 840) i M) := by
  unfold fL_c31 fL_read
  simp only [s1, chk_pos hC.sh]
  exact step_OP (op_read (n := n) hI hn a) hC hM hO
theorem st_c32 (hC : CX Sh M B z rs buf) (hM : MX Sh M (B + 833) z rs buf) (hI : SIall c z rs) (hn : 20000 < n) (hc : c < 1000) (hO : Sh (B + 840) = some (.inr (2, 1))) (s1 : ∀ K : Int32 → Option (Mm ⊕ Int32), scr xs L (i + 1) K = K a) (s2 : ∀ K : Int32 → Option (Mm ⊕ Int32), scr xs L (i + 2) K = K b) (s3 : ∀ K : Int32 → Option (Mm ⊕ Int32), scr xs L (i + 3) K = K d) : GD Sh B (c + 1) (fL_c32 n Sh xs L B (B + 833) (B + 840) i M) := by
  unfold fL_c32 fL_readBeside
  simp only [s1, chk_pos hC.sh]
  exact step_OP (op_readBeside (n := n) hI hn a) hC hM hO
theorem st_c33 (hC : CX Sh M B z rs buf) (hM : MX Sh M (B + 833) z rs buf) (hI : SIall c z rs) (hn : 20000 < n) (hc : c < 1000) (hO : Sh (B + 840) = some (.inr (2, 1))) (s1 : ∀ K : Int32 → Option (Mm ⊕ Int32), scr xs L (i + 1) K = K a) (s2 : ∀ K : Int32 → Option (Mm ⊕ Int32), scr xs L (i + 2) K = K b) (s3 : ∀ K : Int32 → Option (Mm ⊕ Int32), scr xs L (i + 3) K = K d) : GD Sh B (c + 1) (fL_c33 n Sh xs L B (B + 833) (B + 840) i M) := by
  unfold fL_c33 fL_type
  simp only [s1, chk_pos hC.sh]
  exact step_OP (op_type (n := n) hI a) hC hM hO
theorem st_c34 (hC : CX Sh M B z rs buf) (hM : MX Sh M (B + 833) z rs buf) (hI : SIall c z rs) (hn : 20000 < n) (hc : c < 1000) (hO : Sh (B + 840) = some (.inr (2, 1))) (s1 : ∀ K : Int32 → Option (Mm ⊕ Int32), scr xs L (i + 1) K = K a) (s2 : ∀ K : Int32 → Option (Mm ⊕ Int32), scr xs L (i + 2) K = K b) (s3 : ∀ K : Int32 → Option (Mm ⊕ Int32), scr xs L (i + 3) K = K d) : GD Sh B (c + 1) (fL_c34 n Sh xs L B (B + 833) (B + 840) i M) := by
  unfold fL_c34
  exact step_OPV (op_clearText (n := n) hI) hC hM
theorem st_c35 (hC : CX Sh M B z rs buf) (hM : MX Sh M (B + 833) z rs buf) (hI : SIall c z rs) (hn : 20000 < n) (hc : c < 1000) (hO : Sh (B + 840) = some (.inr (2, 1))) (s1 : ∀ K : Int32 → Option (Mm ⊕ Int32), scr xs L (i + 1) K = K a) (s2 : ∀ K : Int32 → Option (Mm ⊕ Int32), scr xs L (i + 2) K = K b) (s3 : ∀ K : Int32 → Option (Mm ⊕ Int32), scr xs L (i + 3) K = K d) : GD Sh B (c + 1) (fL_c35 n Sh xs L B (B + 833) (B + 840) i M) := by
  unfold fL_c35 fL_undo
  simp only [chk_pos hC.sh]
  exact step_OP (op_undo (n := n) hI hn) hC hM hO
theorem st_c36 (hC : CX Sh M B z rs buf) (hM : MX Sh M (B + 833) z rs buf) (hI : SIall c z rs) (hn : 20000 < n) (hc : c < 1000) (hO : Sh (B + 840) = some (.inr (2, 1))) (s1 : ∀ K : Int32 → Option (Mm ⊕ Int32), scr xs L (i + 1) K = K a) (s2 : ∀ K : Int32 → Option (Mm ⊕ Int32), scr xs L (i + 2) K = K b) (s3 : ∀ K : Int32 → Option (Mm ⊕ Int32), scr xs L (i + 3) K = K d) : GD Sh B (c + 1) (fL_c36 n Sh xs L B (B + 833) (B + 840) i M) := by
  unfold fL_c36
  exact step_OPL (op_checksum (n := n) hI hn) hC hM
end LAW2
