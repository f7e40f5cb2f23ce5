/-! ===== LEVEL 2: the order of the document and of focus ===== -/
/-- a row holds numbers -/
def LW (M : Mm) (a : Nat) (L : List Nat) : Prop := ∀ i, i < L.length → M.1 a i = nI (L.getD i 0)
theorem LW.nil {M : Mm} {a : Nat} : LW M a [] := fun i hi => absurd hi (Nat.not_lt_zero i)
theorem LW.put {M : Mm} {a : Nat} {L : List Nat} (h : LW M a L) (x : Nat) : LW (uI M a L.length (nI x)) a (L ++ [x]) := by
  intro i hi
  rw [List.length_append, List.length_singleton] at hi
  by_cases e : i = L.length
  · subst e; rw [uI_same]; simp
  · rw [uI_row e, h i (by omega)]
    simp [List.getD_eq_getElem?_getD, List.getElem?_append_left (show i < L.length by omega)]
theorem LW.off {M : Mm} {a b k : Nat} {v : Int32} {L : List Nat} (h : LW M a L) (hb : a ≠ b) : LW (uI M b k v) a L := fun i hi => by rw [uI_off hb]; exact h i hi
theorem LW.ag {M M' : Mm} {S : Nat → Prop} {a : Nat} {L : List Nat} (h : LW M a L) (ha : AgI S M M') (hS : ¬ S a) : LW M' a L := fun i hi => by rw [ha.2 a hS]; exact h i hi
theorem LW.get {M : Mm} {a : Nat} {L : List Nat} (h : LW M a L) {i : Nat} (hi : i < L.length) : M.1 a i = nI L[i] := by
  rw [h i hi, List.getD_eq_getElem?_getD, List.getElem?_eq_getElem hi]; rfl
section ORDER
variable {Sh : Sp} {M : Mm} {t μ ρ σ n : Nat} {A : At} {K : Kt} {W : Wt}
theorem c_writeFrom (hW : WF A K) (hn : 24 < n) {w : Nat} (hw : Sh w = some (.inr (0, 24))) (ho : t + 109 ≤ w ∨ w < t) : ∀ (d a k : Nat) (L : List Nat) (M : Mm), live A a → 25 ≤ d + dp A a → k + 1 ≤ dp A a → CT Sh M t A K W → LW M w L → L.length + (pre K a).length ≤ 24 → ∃ M', fX4_writeFrom n d Sh M t (nI a) w (nI L.length) (nI k) = some (nI (L.length + (pre K a).length), M') ∧ LW M' w (L ++ pre K a) ∧ AgI (fun a => a = w) M M' := by
  intro d
  induction d with
  | zero => intro a k L M ha hd; have := dp_le hW ha; omega
  | succ d ih =>
    intro a k L M ha hd hk h hL hle
    have hdp := dp_le hW ha
    have hpre := pre_eq hW ha
    rw [hpre, List.length_cons] at hle
    show ∃ M', fX4_writeFrom_body (fX4_writeFrom n d Sh) n Sh M t (nI a) w (nI L.length) (nI k) = _ ∧ _
    unfold fX4_writeFrom_body
    rw [if_pos (le24 (show k ≤ 24 by omega)), if_neg (nI_pos (show L.length < 2 ^ 31 by omega)), aN_of hw, if_pos ((nI_ltI (show L.length < 2 ^ 31 by omega) (by decide)).mpr (show L.length < 24 by omega)), sI_nI hw (by omega) (by decide)]
    unfold fX4_writeFrom_31
    have hkl := kids_len hW ha
    have a1 : AgI (fun a => a = w) M (uI M w L.length (nI a)) := AgI.uI rfl
    obtain ⟨r, e, q1, q2, q3⟩ := iter_inv (f := fun s : Int32 × Int32 × Mm => fX4_writeFrom_31b (fX4_writeFrom n d Sh) n Sh t (nI a) w (nI L.length) (nI k) s.2.2 s.1 s.2.1) (K a).length (fun j s => s.2.1 = nI j ∧ s.1 = nI (L ++ a :: ((K a).take j).flatMap (pre K)).length ∧ LW s.2.2 w (L ++ a :: ((K a).take j).flatMap (pre K)) ∧ AgI (fun a => a = w) M s.2.2) (fun r => r.1 = nI (L.length + (pre K a).length) ∧ LW r.2 w (L ++ pre K a) ∧ AgI (fun a => a = w) M r.2) (fun j s hj hI => by
      obtain ⟨v5, v6, M1⟩ := s
      obtain ⟨e6, e5, hL1, hag⟩ := hI
      dsimp only at e6 e5 hL1 hag
      subst e6; subst e5
      have hc1 : CT Sh M1 t A K W := h.ag hag (fun a x y z => by omega)
      unfold fX4_writeFrom_31b
      rw [bind_of (c_kidCount hc1 ha.1)]
      by_cases hjl : j < (K a).length
      · obtain ⟨hkv, hkp⟩ := hW.2.2.1 a ha (K a)[j] (List.getElem_mem hjl)
        have hdk := dp_kid hW ha (List.getElem_mem hjl)
        have htk : (K a).take (j + 1) = (K a).take j ++ [(K a)[j]] := by rw [List.take_add_one, List.getElem?_eq_getElem hjl]; rfl
        have hall := flatMap_split (pre K) (K a) j hjl
        have hlen := congrArg List.length hall
        simp only [List.length_append] at hlen
        obtain ⟨M2, e2, r2, w2⟩ := ih (K a)[j] (k + 1) (L ++ a :: ((K a).take j).flatMap (pre K)) M1 hkv (by omega) (by omega) hc1 hL1 (by simp only [List.length_append, List.length_cons]; omega)
        rw [if_pos ((nI_ltI (by omega) (by omega)).mpr hjl), bind_of (c_kidAt hc1 ha.1 _), kAt_nI (by omega), List.getElem?_eq_getElem hjl, show oi (some (K a)[j]) = nI (K a)[j] from rfl, nI_add1, bind_of e2]
        refine Or.inl ⟨hjl, _, rfl, nI_add1 j, ?_, ?_, hag.tr w2⟩
        · rw [htk]
          simp only [List.flatMap_append, List.flatMap_cons, List.flatMap_nil, List.append_nil, List.length_append, List.length_cons]
          congr 1
          omega
        · rw [htk]
          simp only [List.flatMap_append, List.flatMap_cons, List.flatMap_nil, List.append_nil]
          simpa using r2
      · rw [if_neg (fun z => hjl ((nI_ltI (by omega) (by omega)).mp z))]
        rw [List.take_of_length_le (by omega)] at hL1 ⊢
        rw [← hpre] at hL1 ⊢
        exact Or.inr ⟨_, rfl, by rw [List.length_append], hL1, hag⟩) (show (K a).length < n by omega) (s := (nI L.length + 1, 0, uI M w L.length (nI a))) ⟨rfl, by rw [List.take_zero, nI_add1, List.length_append]; rfl, by rw [List.take_zero]; exact hL.put a, a1⟩
    refine ⟨r.2, ?_, q2, q3⟩
    rw [e, ← q1]
theorem c_writeOrder (hW : WF A K) (hn : 24 < n) {w : Nat} (hw : Sh w = some (.inr (0, 24))) (ho : t + 109 ≤ w ∨ w < t) (h : CT Sh M t A K W) : ∃ M', fX4_writeOrder n Sh M t w = some (nI (pre K 0).length, M') ∧ LW M' w (pre K 0) ∧ AgI (fun a => a = w) M M' := by
  obtain ⟨M', e, r, g⟩ := c_writeFrom hW hn hw ho 27 0 0 [] M hW.root (by omega) (by have := dp_le hW hW.root; omega) h LW.nil (by have := pre_len hW hW.root; rw [List.length_nil]; omega)
  have e' : fX4_writeFrom n 27 Sh M t 0 w 0 0 = some (nI (0 + (pre K 0).length), M') := e
  unfold fX4_writeOrder
  rw [bind_of e', Nat.zero_add]
  exact ⟨M', rfl, r, g⟩
/-- the ring's order -/
def RO (M : Mm) (ρ : Nat) (L : List Nat) : Prop := M.1 ρ 3 = nI L.length ∧ LW M (ρ + 2) L
theorem RO.put {M : Mm} {ρ : Nat} {X : List Nat} (h : RO M ρ X) (x : Nat) : RO (uI (uI M (ρ + 2) X.length (nI x)) ρ 3 (nI X.length + 1)) ρ (X ++ [x]) := ⟨by rw [uI_same, nI_add1, List.length_append]; rfl, (h.2.put x).off (by omega)⟩
theorem orN_adm {a : Nat} (ha : live A a) : (∃ b, nI a = nI b ∧ live A b ∧ admP A b) ↔ admP A a := ⟨fun ⟨b, e, hb, z⟩ => by have := nI_inj ha.lt hb.lt e; subst this; exact z, fun z => ⟨a, rfl, ha, z⟩⟩
theorem filter_split {α : Type} (p : α → Bool) (L : List α) (j : Nat) (h : j < L.length) : L.filter p = (L.take j).filter p ++ ((if p L[j] then [L[j]] else []) ++ (L.drop (j + 1)).filter p) := by
  have e : L.filter p = (L.take j ++ L[j] :: L.drop (j + 1)).filter p := by rw [← List.drop_eq_getElem_cons h, List.take_append_drop]
  rw [e, List.filter_append, List.filter_cons]
  by_cases hp : p L[j] = true
  · rw [if_pos hp, if_pos hp]; rfl
  · rw [if_neg hp, if_neg hp]; rfl
theorem c_addAll (hR : RNG Sh M.2.1 ρ σ) (ho : σ + 110 ≤ ρ ∨ ρ + 2 < σ) (h : CT Sh M (σ + 1) A K W) (hW : WF A K) (hn : 24 < n) (tab : Int32) {L : List Nat} (hL : RO M ρ L) (hwk : LW M (ρ + 1) (pre K 0)) (hle : (L ++ ordT A K tab).length ≤ 24) : ∃ M', fX2_addAll n Sh M ρ tab (nI (pre K 0).length) (trapV A) = some M' ∧ RO M' ρ (L ++ ordT A K tab) ∧ AgI (fun a => a = ρ ∨ a = ρ + 2) M M' := by
  have hpl := pre_len hW hW.root
  unfold fX2_addAll fX2_addAll_3
  obtain ⟨r, e, q⟩ := iter_inv (f := fun s : Int32 × Mm => fX2_addAll_3b n Sh ρ tab (nI (pre K 0).length) (trapV A) s.2 s.1) (pre K 0).length (fun j s => s.1 = nI j ∧ RO s.2 ρ (L ++ ((pre K 0).take j).filter (fun j => cB (A j 7 = tab ∧ admP A j))) ∧ AgI (fun a => a = ρ ∨ a = ρ + 2) M s.2) (fun M' => RO M' ρ (L ++ ordT A K tab) ∧ AgI (fun a => a = ρ ∨ a = ρ + 2) M M') (fun j s hj hI => by
    obtain ⟨v, M1⟩ := s
    obtain ⟨e1, hr1, hag⟩ := hI
    dsimp only at e1 hr1 hag
    subst e1
    have hc1 : CT Sh M1 (σ + 1) A K W := h.ag hag (fun a x y z => by omega)
    have hR1 : RNG Sh M1.2.1 ρ σ := by rw [hag.1]; exact hR
    have hwk1 : LW M1 (ρ + 1) (pre K 0) := hwk.ag hag (by omega)
    unfold fX2_addAll_3b fX2_addAll_82
    by_cases hjl : j < (pre K 0).length
    · have hxl := pre_live hW 0 hW.root _ (List.getElem_mem hjl)
      have htk : (pre K 0).take (j + 1) = (pre K 0).take j ++ [(pre K 0)[j]] := by rw [List.take_add_one, List.getElem?_eq_getElem hjl]; rfl
      have hsp := filter_split (fun j => cB (A j 7 = tab ∧ admP A j)) (pre K 0) j hjl
      rw [if_pos ((nI_ltI (by omega) (by omega)).mpr hjl), if_pos (lt24 (by omega)), tF_of hR1.2.2.1, aI_nI hR1.2.2.2.2.1 (show j < 24 by omega) (by decide), hwk1.get hjl, tF_of hR1.2.1, gF_of hR1.2.2.2.2.2.2.1 hR1.2.2.2.2.2.2.2, chk_pos hc1.1.1, bind_of (c_set2 hc1 _), rd_nI hxl.1]
      have no : ¬ (A (pre K 0)[j] 7 = tab ∧ admP A (pre K 0)[j]) → L ++ ((pre K 0).take (j + 1)).filter (fun j => cB (A j 7 = tab ∧ admP A j)) = L ++ ((pre K 0).take j).filter (fun j => cB (A j 7 = tab ∧ admP A j)) := fun hx => by
        rw [htk, List.filter_append, List.filter_cons, if_neg (fun z => hx (cB_iff.mp z))]
        simp
      by_cases h7 : A (pre K 0)[j] 7 = tab
      · rw [if_pos h7, bind_of (c_admitsIn hR1 hc1 hW hn (Or.inr ⟨_, hxl, rfl⟩)), bI_congr (orN_adm hxl)]
        by_cases ha : admP A (pre K 0)[j]
        · have hlen : (L ++ ((pre K 0).take j).filter (fun j => cB (A j 7 = tab ∧ admP A j))).length < 24 := by
            unfold ordT at hle
            rw [hsp, if_pos (cB_iff.mpr ⟨h7, ha⟩)] at hle
            simp only [List.length_append, List.length_cons, List.length_nil] at hle ⊢
            omega
          rw [i0 ha]
          simp only [tI_of]
          rw [hr1.1, if_pos (lt24 hlen), tF_of hR1.2.2.2.1, sI_nI hR1.2.2.2.2.2.1 hlen (by decide)]
          simp only [qI_of]
          rw [uI_off (by omega), hr1.1]
          refine Or.inl ⟨hjl, _, rfl, nI_add1 j, ?_, hag.tr ((AgI.uI (Or.inr rfl)).tr (AgI.uI (Or.inl rfl)))⟩
          have e2 : L ++ ((pre K 0).take (j + 1)).filter (fun j => cB (A j 7 = tab ∧ admP A j)) = (L ++ ((pre K 0).take j).filter (fun j => cB (A j 7 = tab ∧ admP A j))) ++ [(pre K 0)[j]] := by
            rw [htk, List.filter_append, List.filter_cons, if_pos (cB_iff.mpr ⟨h7, ha⟩)]
            simp
          rw [e2]
          exact hr1.put _
        · rw [i0n ha]
          exact Or.inl ⟨hjl, _, rfl, nI_add1 j, by rw [no (fun z => ha z.2)]; exact hr1, hag⟩
      · rw [if_neg h7]
        exact Or.inl ⟨hjl, _, rfl, nI_add1 j, by rw [no (fun z => h7 z.1)]; exact hr1, hag⟩
    · rw [if_neg (fun z => hjl ((nI_ltI (by omega) (by omega)).mp z))]
      rw [List.take_of_length_le (by omega)] at hr1
      exact Or.inr ⟨M1, rfl, hr1, hag⟩) (show (pre K 0).length < n by omega) (s := (0, M)) ⟨rfl, by rw [List.take_zero, List.filter_nil, List.append_nil]; exact hL, AgI.rf⟩
  exact ⟨r, e, q⟩
theorem tabs_get {j : Nat} (h : j < 9) : tabs[j]? = some (nI (j + 1)) := by
  have : ∀ j ∈ List.range 9, tabs[j]? = some (nI (j + 1)) := by decide +kernel
  exact this j (List.mem_range.mpr h)
theorem tabs_pre (A : At) (K : Kt) {j : Nat} {tab : Int32} (h : tabs[j]? = some tab) : (tabs.take (j + 1)).flatMap (ordT A K) = (tabs.take j).flatMap (ordT A K) ++ ordT A K tab := by
  rw [List.take_add_one, h]
  simp [List.flatMap_append]
theorem tabs_le (hW : WF A K) (j : Nat) : ((tabs.take j).flatMap (ordT A K)).length ≤ 24 := by
  have h := ordL_len hW
  unfold ordL at h
  rw [← List.take_append_drop j tabs, List.flatMap_append, List.length_append] at h
  omega
theorem c_fill (hR : RNG Sh M.2.1 ρ σ) (ho : σ + 110 ≤ ρ ∨ ρ + 2 < σ) (h : CT Sh M (σ + 1) A K W) (hW : WF A K) (hN : WN A) (hn : 24 < n) : ∃ M', fX2_fill n Sh M ρ = some M' ∧ RO M' ρ (ordL A K) ∧ AgI (fun a => a = ρ ∨ a = ρ + 1 ∨ a = ρ + 2) M M' := by
  obtain ⟨M1, e1, r1, g1⟩ := c_writeOrder hW hn (w := ρ + 1) hR.2.2.2.2.1 (by omega) h
  have c1 : CT Sh M1 (σ + 1) A K W := h.ag g1 (fun a x y z => by omega)
  have hR1 : RNG Sh M1.2.1 ρ σ := by rw [g1.1]; exact hR
  unfold fX2_fill
  rw [tF_of hR.2.1, gF_of hR.2.2.2.2.2.2.1 hR.2.2.2.2.2.2.2, tF_of hR.2.2.1, chk_pos h.1.1, bind_of e1]
  dsimp only
  rw [tF_of hR1.2.1, gF_of hR1.2.2.2.2.2.2.1 hR1.2.2.2.2.2.2.2, chk_pos h.1.1, bind_of (c_topDialog c1 hW hN hn)]
  simp only [qI_of]
  unfold fX2_fill_33
  have g2 : AgI (fun a => a = ρ ∨ a = ρ + 1 ∨ a = ρ + 2) M (uI M1 ρ 3 0) := (g1.mono (fun a z => Or.inr (Or.inl z))).tr (AgI.uI (Or.inl rfl))
  have all : ∀ (M : Mm) (L : List Nat) (tab : Int32), CT Sh M (σ + 1) A K W → RNG Sh M.2.1 ρ σ → RO M ρ L → LW M (ρ + 1) (pre K 0) → (L ++ ordT A K tab).length ≤ 24 → ∃ M', fX2_addAll n Sh M ρ tab (nI (pre K 0).length) (trapV A) = some M' ∧ RO M' ρ (L ++ ordT A K tab) ∧ AgI (fun a => a = ρ ∨ a = ρ + 2) M M' := fun M L tab c r x y z => c_addAll r ho c hW hn tab x y z
  obtain ⟨M', e, q⟩ := iter_inv (f := fun s : Int32 × Mm => fX2_fill_33b n Sh ρ s.2 (nI (pre K 0).length) (trapV A) s.1) 9 (fun j s => s.1 = nI (j + 1) ∧ RO s.2 ρ ((tabs.take j).flatMap (ordT A K)) ∧ LW s.2 (ρ + 1) (pre K 0) ∧ CT Sh s.2 (σ + 1) A K W ∧ AgI (fun a => a = ρ ∨ a = ρ + 1 ∨ a = ρ + 2) M s.2) (fun M' => RO M' ρ (ordL A K) ∧ AgI (fun a => a = ρ ∨ a = ρ + 1 ∨ a = ρ + 2) M M') (fun j s hj hI => by
    obtain ⟨v, M3⟩ := s
    obtain ⟨e3, r3, w3, c3, g3⟩ := hI
    dsimp only at e3 r3 w3 c3 g3
    subst e3
    have hR3 : RNG Sh M3.2.1 ρ σ := by rw [g3.1]; exact hR
    unfold fX2_fill_33b fX2_fill_52
    by_cases h9 : j < 9
    · obtain ⟨M4, e4, r4, g4⟩ := all M3 _ (nI (j + 1)) c3 hR3 r3 w3 (by rw [← tabs_pre A K (tabs_get h9)]; exact tabs_le hW _)
      rw [if_pos (show nI (j + 1) ≤ 9 from (nI_leI (b := 9) (by omega) (by decide)).mpr (by omega)), bind_of e4]
      rw [← tabs_pre A K (tabs_get h9)] at r4
      exact Or.inl ⟨h9, _, rfl, nI_add1 _, r4, w3.ag g4 (by omega), c3.ag g4 (fun a x y z => by omega), g3.tr (g4.mono (fun a z => by omega))⟩
    · have : j = 9 := by omega
      subst this
      obtain ⟨M4, e4, r4, g4⟩ := all M3 _ 0 c3 hR3 r3 w3 (by rw [← tabs_pre A K (show tabs[9]? = some 0 from rfl)]; exact tabs_le hW _)
      rw [if_neg (show ¬ nI (9 + 1) ≤ 9 by decide), bind_of e4]
      rw [← tabs_pre A K (show tabs[9]? = some 0 from rfl)] at r4
      exact Or.inr ⟨M4, rfl, r4, g3.tr (g4.mono (fun a z => by omega))⟩) (show 9 < n by omega) (s := (1, uI M1 ρ 3 0)) ⟨rfl, ⟨uI_same, LW.nil⟩, r1.off (by omega), c1.ag (AgI.uI (S := fun a => a = ρ) rfl) (fun a x y z => by omega), g2⟩
  exact ⟨M', e, q⟩
theorem c_at (hR : RNG Sh M.2.1 ρ σ) {L : List Nat} (hL : RO M ρ L) (hl : L.length ≤ 24) (v : Int32) : fX2_at n Sh M ρ v = some (kAt L v) := by
  unfold fX2_at kAt
  by_cases h0 : v < 0
  · rw [if_pos h0, if_pos h0]
  · rw [if_neg h0, if_neg h0]
    obtain ⟨j, hj, rfl⟩ := nI_of h0
    simp only [tI_of, hL.1, lt_nI hj (show L.length < 2 ^ 31 by omega)]
    rw [nI_clamp hj]
    by_cases hjl : j < L.length
    · rw [if_pos hjl, if_pos (lt24 (by omega)), tF_of hR.2.2.2.1, aI_nI hR.2.2.2.2.2.1 (by omega) (by decide), hL.2.get hjl, List.getElem?_eq_getElem hjl]
      rfl
    · rw [if_neg hjl, List.getElem?_eq_none_iff.mpr (by omega)]
      rfl
end ORDER
