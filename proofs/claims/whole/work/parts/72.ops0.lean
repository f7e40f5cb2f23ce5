/-! ===== LEVEL 2: the calls: what is asked ===== -/
def OutX (f : Option ((String ⊕ Int32) × Mm)) (hs : List (String × Int32)) (k v : Int32) (P : Mm → Prop) : Prop := (∃ E M', f = some (.inl E, M') ∧ wx E M' hs = some (k, M') ∧ k ≠ 0 ∧ P M') ∨ ∃ M', f = some (.inr v, M') ∧ k = 0 ∧ P M'
def OutM (f : Option (Int32 × Mm)) (μ : Nat) (k v : Int32) (P : Mm → Prop) : Prop := ∃ r M', f = some (r, M') ∧ M'.1 μ 5 = k ∧ (k = 0 → r = v) ∧ P M'
def SIall (c : Nat) (z : Sc) (rs : List Sc) : Prop := SIc c z ∧ ∀ x ∈ rs, SIc c x
/-- a call that may throw answers alike -/
def OP (Sh : Sp) (B c : Nat) (z : Sc) (rs : List Sc) (buf : List Int32) (fX : Mm → Option ((String ⊕ Int32) × Mm)) (fM : Mm → Option (Int32 × Mm)) (hs : List (String × Int32)) : Prop := ∃ k v z' rs' buf', (∀ M, CX Sh M B z rs buf → OutX (fX M) hs k v (fun M' => CX Sh M' B z' rs' buf' ∧ Ag (CR B) M M')) ∧ (∀ N, MX Sh N (B + 833) z rs buf → OutM (fM N) (B + 833) k v (fun N' => MX Sh N' (B + 833) z' rs' buf' ∧ FM (B + 833) N N')) ∧ SIall (c + 1) z' rs'
/-- a call that throws nothing answers alike -/
def OPV (Sh : Sp) (B c : Nat) (z : Sc) (rs : List Sc) (buf : List Int32) (fX : Mm → Option (Int32 × Mm)) (fM : Mm → Option (Int32 × Mm)) : Prop := ∃ v z' rs' buf', (∀ M, CX Sh M B z rs buf → ∃ M', fX M = some (v, M') ∧ CX Sh M' B z' rs' buf' ∧ Ag (CR B) M M') ∧ (∀ N, MX Sh N (B + 833) z rs buf → ∃ N', fM N = some (v, N') ∧ MX Sh N' (B + 833) z' rs' buf' ∧ FM (B + 833) N N') ∧ SIall (c + 1) z' rs'
theorem xb1 {ρ : Type} {u : Unit} {onE : String → Option ρ} {K : Option ρ} : xb (some (.inr u)) onE K = K := rfl
theorem xb0 {ρ : Type} {E : String} {onE : String → Option ρ} {K : Option ρ} : xb (some (.inl E)) onE K = onE E := rfl
/-- an int from 0 to k - 1 -/
def upto (k : Nat) (v : Int32) : Prop := ∃ q, q < k ∧ v = nI q
theorem upto_split {k : Nat} (hk : k < 2 ^ 31) {v : Int32} : ¬ upto k v ↔ v < 0 ∨ ¬ v < nI k := by
  constructor
  · intro h
    by_cases c : v < 0
    · exact Or.inl c
    · obtain ⟨q, hq, e⟩ := nI_of c
      subst e
      refine Or.inr (fun z => h ⟨q, ?_, rfl⟩)
      exact (nI_ltI hq hk).mp z
  · rintro h ⟨q, hq, e⟩
    subst e
    rcases h with h | h
    · exact nI_pos (by omega) h
    · exact h ((nI_ltI (by omega) hk).mpr hq)
section OPS
variable {Sh : Sp} {M M' N : Mm} {B μ n c : Nat} {z z' : Sc} {rs rs' : List Sc} {buf : List Int32} {A A' : At} {K K' : Kt} {W W' : Wt} {Q : List QI} {sp : List Int32} {fo rd la v : Int32}
theorem SIall.up (h : SIall c z rs) : SIall (c + 1) z rs := ⟨h.1.up, fun x hx => (h.2 x hx).up⟩
theorem SIall.keep (h : SIall c z rs) : ∀ x ∈ kpR rs z, SIc (c + 1) x := fun x hx => (kpR_mem hx).elim (fun e => by rw [e]; exact h.1.up) (fun hx => (h.2 x hx).up)
theorem SIall.wl (h : SIall c z rs) : WL z.1 z.2.2.1 := h.1.2.1.wl
theorem SIall.wls (h : SIall c z rs) : ∀ x ∈ rs, WL x.1 x.2.2.1 := fun x hx => (h.2 x hx).2.1.wl
theorem out_err {k : Int32} {r : Int32} {hs : List (String × Int32)} {E : String} {P : Mm → Prop} (hk : k ≠ 0) (he : ∀ M, wx E M hs = some (k, M)) (hp : P M) : OutX (some (.inl E, M)) hs k r P := Or.inl ⟨E, M, rfl, he M, hk, hp⟩
theorem m_err {k r : Int32} (hk : k ≠ 0) (h : MX Sh N μ z rs buf) : OutM (some (0, uI N μ 5 k)) μ k r (fun N' => MX Sh N' μ z rs buf ∧ FM μ N N') := ⟨0, _, rfl, uI_same, fun e => absurd e hk, h.c5 k, FM.u (by omega)⟩
theorem x_req (h : CX Sh M B z rs buf) (v : Int32) : fX6_requireNode n Sh M B v = some (cif (isN z.1 v) (.inr ()) (.inl "java/lang/IndexOutOfBoundsException")) := by
  unfold fX6_requireNode
  rw [tF_of h.1.2.1.1, gF_of h.2.1.1.1 h.2.1.1.2.1, chk_pos h.tr'.1.1, bind_of (c_has h.tr' v)]
  by_cases c : isN z.1 v
  · rw [i0 c, cif_pos c]
  · rw [i0n c, cif_neg c]
theorem x_kind {k : Nat} (hk : k < 2 ^ 31) (v : Int32) : fX6_requireKind n Sh M v (nI k) = some (cif (upto k v) (.inr ()) (.inl "java/lang/IllegalArgumentException")) := by
  unfold fX6_requireKind fX6_requireKind_9
  by_cases c : upto k v
  · rw [cif_pos c]
    obtain ⟨q, hq, e⟩ := c
    subst e
    rw [if_neg (nI_pos (by omega)), if_pos ((nI_ltI (by omega) hk).mpr hq)]
  · rw [cif_neg c]
    rcases (upto_split hk).mp c with z | z
    · rw [if_pos z]
    · by_cases c2 : v < 0
      · rw [if_pos c2]
      · rw [if_neg c2, if_neg z]
theorem m_upto {k : Nat} (hk : k + 1 < 2 ^ 31) (v : Int32) : fX7_in n Sh M v 0 (nI k) = some (bI (upto (k + 1) v)) := by
  rw [m_in]
  by_cases c : upto (k + 1) v
  · rw [bI_pos c]
    obtain ⟨q, hq, e⟩ := c
    subst e
    rw [if_neg (nI_pos (by omega)), if_pos ((nI_leI (by omega) (by omega)).mpr (by omega))]
  · rw [bI_neg c]
    by_cases c2 : v < 0
    · rw [if_pos c2]
    · obtain ⟨q, hq, e⟩ := nI_of c2
      subst e
      rw [if_neg c2, if_neg (fun y => c ⟨q, by have := (nI_leI hq (by omega)).mp y; omega, rfl⟩)]
/-- below a count that may be 0 -/
theorem m_below {k : Nat} (hk : k < 2 ^ 31) (v : Int32) : fX7_in n Sh M v 0 (nI k - 1) = some (bI (upto k v)) := by
  cases k with
  | zero =>
    rw [m_in, bI_neg (fun ⟨q, hq, _⟩ => absurd hq (Nat.not_lt_zero q))]
    by_cases c2 : v < 0
    · rw [if_pos c2]
    · rw [if_neg c2, if_neg]
      obtain ⟨q, hq, e⟩ := nI_of c2
      subst e
      intro y
      exact absurd (Int32.lt_of_le_of_lt y (show nI 0 - 1 < 0 by decide)) (nI_pos hq)
  | succ k =>
    rw [nI_sub1 (by omega), Nat.add_sub_cancel]
    exact m_upto hk v
theorem kAt_up {L : List Nat} (h : ¬ upto L.length v) (hl : L.length < 2 ^ 31) : kAt L v = -1 := by
  unfold kAt
  by_cases c : v < 0
  · rw [if_pos c]
  · obtain ⟨q, hq, e⟩ := nI_of c
    subst e
    rw [if_neg c, nI_clamp hq, List.getElem?_eq_none_iff.mpr (Classical.byContradiction fun y => h ⟨q, by omega, rfl⟩)]
    rfl
theorem lat_up {l : List Int32} (h : ¬ upto l.length v) (hl : l.length < 2 ^ 31) : lat l v = -1 := by
  unfold lat
  by_cases c : v < 0
  · rw [if_pos c]
  · obtain ⟨q, hq, e⟩ := nI_of c
    subst e
    rw [if_neg c, nI_clamp hq, List.getD_eq_getElem?_getD, List.getElem?_eq_none_iff.mpr (Classical.byContradiction fun y => h ⟨q, by omega, rfl⟩)]
    rfl
theorem lat_in {l : List Int32} {q : Nat} (h : q < l.length) (hl : l.length < 2 ^ 31) : lat l (nI q) = l.getD q 0 := by
  unfold lat
  rw [if_neg (nI_pos (by omega)), nI_clamp (by omega)]
  simp [List.getD_eq_getElem?_getD, h]
/-- what info tells -/
theorem info_both (hW : WF A K) (hN : WN A) (hn : 24 < n) {j q : Nat} (hj : live A j) (hq : q < 15) : ∃ v, (∀ M t, CT Sh M t A K W → fX4_about n Sh M t (nI j) (nI q) = some v) ∧ ∀ M μ, ML Sh M.2.1 μ → MP (M.1 (μ + 1)) A K W → fX7_infoOf n Sh M μ (nI j) (nI q) = some v := by
  have e01 : ∀ P : Prop, (if bI P = 0 then some (0 : Int32) else some 1) = some (bI P) := fun P => by
    by_cases c : P
    · rw [i0 c, bI_pos c]
    · rw [i0n c, bI_neg c]
  unfold fX4_about fX7_infoOf
  rcases (by omega : q = 0 ∨ q = 1 ∨ q = 2 ∨ q = 3 ∨ q = 4 ∨ q = 5 ∨ q = 6 ∨ q = 7 ∨ q = 8 ∨ q = 9 ∨ q = 10 ∨ q = 11 ∨ q = 12 ∨ q = 13 ∨ q = 14) with e | e | e | e | e | e | e | e | e | e | e | e | e | e | e <;> subst e
  · refine ⟨A j 0, fun M t h => ?_, fun M μ hL hP => ?_⟩
    · rw [if_pos (by decide), bind_of (c_roleOf h _), rd_nI hj.1]
    · rw [if_pos (by decide), bind_of (mo3 hL hP hj)]
  · refine ⟨A j 1, fun M t h => ?_, fun M μ hL hP => ?_⟩
    · rw [if_neg (by decide), if_pos (by decide), bind_of (c_parentOf h _), rd_nI hj.1]
    · rw [if_neg (by decide), if_pos (by decide), bind_of (mo1 hL hP hj)]
  · refine ⟨nI (rank A K j), fun M t h => ?_, fun M μ hL hP => ?_⟩
    · rw [if_neg (by decide), if_neg (by decide), if_pos (by decide), bind_of (c_placeOf h hW hn hj)]
    · rw [if_neg (by decide), if_neg (by decide), if_pos (by decide), bind_of (mo2 hL hP hj)]
  · refine ⟨nI (K j).length, fun M t h => ?_, fun M μ hL hP => ?_⟩
    · rw [if_neg (by decide), if_neg (by decide), if_neg (by decide), if_pos (by decide), bind_of (c_kidCount h hj.1)]
    · rw [if_neg (by decide), if_neg (by decide), if_neg (by decide), if_pos (by decide), bind_of (m_childMany hL hP hW hn hj)]
  · refine ⟨nI (W j 0).length, fun M t h => ?_, fun M μ hL hP => ?_⟩
    · rw [if_neg (by decide), if_neg (by decide), if_neg (by decide), if_neg (by decide), if_pos (by decide), bind_of (c_textOf h hj.1), gI_of (c_textW h hj.1).1, (c_textW h hj.1).2.2.2.1]
    · rw [if_neg (by decide), if_neg (by decide), if_neg (by decide), if_neg (by decide), if_pos (by decide), bind_of (mo12 hL hP hj)]
  · refine ⟨nI (W j 1).length, fun M t h => ?_, fun M μ hL hP => ?_⟩
    · rw [if_neg (by decide), if_neg (by decide), if_neg (by decide), if_neg (by decide), if_neg (by decide), if_pos (by decide), bind_of (c_labelOf h hj.1), gI_of (c_labelW h hj.1).1, (c_labelW h hj.1).2.2.2.1]
    · rw [if_neg (by decide), if_neg (by decide), if_neg (by decide), if_neg (by decide), if_neg (by decide), if_pos (by decide), bind_of (mo13 hL hP hj)]
  · refine ⟨A j 2, fun M t h => ?_, fun M μ hL hP => ?_⟩
    · rw [if_neg (by decide), if_neg (by decide), if_neg (by decide), if_neg (by decide), if_neg (by decide), if_neg (by decide), if_pos (by decide), bind_of (c_labellerOf h _), rd_nI hj.1]
    · rw [if_neg (by decide), if_neg (by decide), if_neg (by decide), if_neg (by decide), if_neg (by decide), if_neg (by decide), if_pos (by decide), bind_of (mo4 hL hP hj)]
  · refine ⟨A j 5, fun M t h => ?_, fun M μ hL hP => ?_⟩
    · rw [if_neg (by decide), if_neg (by decide), if_neg (by decide), if_neg (by decide), if_neg (by decide), if_neg (by decide), if_neg (by decide), if_pos (by decide), show nI 7 - 7 = (0 : Int32) from by decide, bind_of (c_set0 h _), rd_nI hj.1]
    · rw [if_neg (by decide), if_neg (by decide), if_neg (by decide), if_neg (by decide), if_neg (by decide), if_neg (by decide), if_neg (by decide), if_pos (by decide), show (5 : Int32) + nI 7 - 7 = 5 from by decide, bind_of (mo5 hL hP hj)]
  · refine ⟨A j 6, fun M t h => ?_, fun M μ hL hP => ?_⟩
    · rw [if_neg (by decide), if_neg (by decide), if_neg (by decide), if_neg (by decide), if_neg (by decide), if_neg (by decide), if_neg (by decide), if_neg (by decide), if_pos (by decide), show nI 8 - 7 = (1 : Int32) from by decide, bind_of (c_set1 h _), rd_nI hj.1]
    · rw [if_neg (by decide), if_neg (by decide), if_neg (by decide), if_neg (by decide), if_neg (by decide), if_neg (by decide), if_neg (by decide), if_neg (by decide), if_pos (by decide), show (5 : Int32) + nI 8 - 7 = 6 from by decide, bind_of (mo6 hL hP hj)]
  · refine ⟨A j 7, fun M t h => ?_, fun M μ hL hP => ?_⟩
    · rw [if_neg (by decide), if_neg (by decide), if_neg (by decide), if_neg (by decide), if_neg (by decide), if_neg (by decide), if_neg (by decide), if_neg (by decide), if_neg (by decide), if_pos (by decide), show nI 9 - 7 = (2 : Int32) from by decide, bind_of (c_set2 h _), rd_nI hj.1]
    · rw [if_neg (by decide), if_neg (by decide), if_neg (by decide), if_neg (by decide), if_neg (by decide), if_neg (by decide), if_neg (by decide), if_neg (by decide), if_neg (by decide), if_pos (by decide), show (5 : Int32) + nI 9 - 7 = 7 from by decide, bind_of (mo7 hL hP hj)]
  · refine ⟨A j 8, fun M t h => ?_, fun M μ hL hP => ?_⟩
    · rw [if_neg (by decide), if_neg (by decide), if_neg (by decide), if_neg (by decide), if_neg (by decide), if_neg (by decide), if_neg (by decide), if_neg (by decide), if_neg (by decide), if_neg (by decide), if_pos (by decide), show nI 10 - 7 = (3 : Int32) from by decide, bind_of (c_set3 h _), rd_nI hj.1]
    · rw [if_neg (by decide), if_neg (by decide), if_neg (by decide), if_neg (by decide), if_neg (by decide), if_neg (by decide), if_neg (by decide), if_neg (by decide), if_neg (by decide), if_neg (by decide), if_pos (by decide), show (5 : Int32) + nI 10 - 7 = 8 from by decide, bind_of (mo8 hL hP hj)]
  · refine ⟨A j 9, fun M t h => ?_, fun M μ hL hP => ?_⟩
    · rw [if_neg (by decide), if_neg (by decide), if_neg (by decide), if_neg (by decide), if_neg (by decide), if_neg (by decide), if_neg (by decide), if_neg (by decide), if_neg (by decide), if_neg (by decide), if_neg (by decide), if_pos (by decide), show nI 11 - 7 = (4 : Int32) from by decide, bind_of (c_set4 h _), rd_nI hj.1]
    · rw [if_neg (by decide), if_neg (by decide), if_neg (by decide), if_neg (by decide), if_neg (by decide), if_neg (by decide), if_neg (by decide), if_neg (by decide), if_neg (by decide), if_neg (by decide), if_neg (by decide), if_pos (by decide), show (5 : Int32) + nI 11 - 7 = 9 from by decide, bind_of (mo9 hL hP hj)]
  · refine ⟨bI (A j 3 ≠ 0), fun M t h => ?_, fun M μ hL hP => ?_⟩
    · rw [if_neg (by decide), if_neg (by decide), if_neg (by decide), if_neg (by decide), if_neg (by decide), if_neg (by decide), if_neg (by decide), if_neg (by decide), if_neg (by decide), if_neg (by decide), if_neg (by decide), if_neg (by decide), if_pos (by decide), bind_of (c_isOpen h _), rd_nI hj.1, e01]
    · rw [if_neg (by decide), if_neg (by decide), if_neg (by decide), if_neg (by decide), if_neg (by decide), if_neg (by decide), if_neg (by decide), if_neg (by decide), if_neg (by decide), if_neg (by decide), if_neg (by decide), if_neg (by decide), if_pos (by decide), bind_of (mo10 hL hP hj)]
      by_cases c0 : A j 3 = 0
      · rw [c0, if_pos (by decide), bI_neg (fun z => z rfl)]
      · obtain ⟨q, hq, e⟩ := nI_of (hN.1 j hj)
        rw [if_neg, bI_pos c0]
        rw [e, nI_le0 hq]
        intro y
        subst y
        exact c0 e
  · refine ⟨bI (outP A j), fun M t h => ?_, fun M μ hL hP => ?_⟩
    · rw [if_neg (by decide), if_neg (by decide), if_neg (by decide), if_neg (by decide), if_neg (by decide), if_neg (by decide), if_neg (by decide), if_neg (by decide), if_neg (by decide), if_neg (by decide), if_neg (by decide), if_neg (by decide), if_neg (by decide), if_pos (by decide), bind_of (c_isOut h hj.1), e01]
    · rw [if_neg (by decide), if_neg (by decide), if_neg (by decide), if_neg (by decide), if_neg (by decide), if_neg (by decide), if_neg (by decide), if_neg (by decide), if_neg (by decide), if_neg (by decide), if_neg (by decide), if_neg (by decide), if_neg (by decide), if_pos (by decide), bind_of (m_isOut hL hP hj), e01]
  · refine ⟨bI (shownP A (nI j)), fun M t h => ?_, fun M μ hL hP => ?_⟩
    · rw [if_neg (by decide), if_neg (by decide), if_neg (by decide), if_neg (by decide), if_neg (by decide), if_neg (by decide), if_neg (by decide), if_neg (by decide), if_neg (by decide), if_neg (by decide), if_neg (by decide), if_neg (by decide), if_neg (by decide), if_neg (by decide), if_pos (by decide), bind_of (c_isShown h hW hn (Or.inr ⟨j, hj, rfl⟩)), e01]
      congr 1
      exact bI_congr ⟨fun y => y.2, fun y => ⟨⟨j, hj, rfl⟩, y⟩⟩
    · rw [if_neg (by decide), if_neg (by decide), if_neg (by decide), if_neg (by decide), if_neg (by decide), if_neg (by decide), if_neg (by decide), if_neg (by decide), if_neg (by decide), if_neg (by decide), if_neg (by decide), if_neg (by decide), if_neg (by decide), if_neg (by decide), if_pos (by decide), bind_of (m_isShown hL hP hW hn hj), e01]
/-- a call on one node that only asks -/
theorem op_ask {hs : List (String × Int32)} (hI : SIall c z rs) (a : Int32) {gX : Mm → Option (String ⊕ Int32)} {fM : Mm → Option (Int32 × Mm)} {gM : Mm → Int32 → Option (Int32 × Mm)} (h1 : ∀ M, wx "java/lang/IndexOutOfBoundsException" M hs = some (1, M))
    (eX : ∀ M, gX M = xb (fX6_requireNode n Sh M B a) (fun E => some (.inl E)) (gX M)) (eM : ∀ N, ML Sh N.2.1 (B + 833) → MP (N.1 (B + 833 + 1)) z.1 z.2.1 z.2.2.1 → fM N = if bI (isN z.1 a) = 0 then gM N 1 else gM N 0) (e1 : ∀ N, ML Sh N.2.1 (B + 833) → gM N 1 = some (0, uI N (B + 833) 5 1))
    (hv : ∀ j, live z.1 j → a = nI j → ∃ v, (∀ M, CX Sh M B z rs buf → gX M = some (.inr v)) ∧ ∀ N, MX Sh N (B + 833) z rs buf → gM N 0 = some (v, uI N (B + 833) 5 0)) : OP Sh B c z rs buf (fun M => (gX M).map fun y => (y, M)) fM hs := by
  by_cases ca : isN z.1 a
  · obtain ⟨j, hj, e⟩ := id ca
    obtain ⟨v, v1, v2⟩ := hv j hj e
    refine ⟨0, v, z, rs, buf, fun M hM => Or.inr ⟨M, ?_, rfl, hM, Ag.rf⟩, fun N hN => ?_, hI.up⟩
    · show (gX M).map _ = _
      rw [v1 M hM]
      rfl
    · rw [eM N hN.1 hN.2.1.1, i0 ca, v2 N hN]
      exact ⟨v, _, rfl, uI_same, fun _ => rfl, hN.c5 0, FM.u (by omega)⟩
  · refine ⟨1, 0, z, rs, buf, fun M hM => ?_, fun N hN => ?_, hI.up⟩
    · show OutX ((gX M).map fun y => (y, M)) _ _ _ _
      rw [eX M, x_req hM a, cif_neg ca]
      exact out_err (by decide) h1 ⟨hM, Ag.rf⟩
    · rw [eM N hN.1 hN.2.1.1, i0n ca, e1 N hN.1]
      exact m_err (by decide) hN
end OPS
