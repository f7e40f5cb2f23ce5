/-! ===== LEVEL 2: tables: the reference; what is read ===== -/
noncomputable def hdrW (A : At) (K : Kt) (W : Wt) (rdl : Int32) (j : Nat) (col : Bool) : List (List Int32) := cif (headV A K col (nI j) = -1 ∨ headV A K col (nI j) = headV A K col rdl) [] (partW A K W (headV A K col (nI j)).toNatClampNeg)
noncomputable def rdW (A : At) (K : Kt) (W : Wt) (rdl : Int32) (j : Nat) : List (List Int32) := hdrW A K W rdl j false ++ hdrW A K W rdl j true ++ partW A K W j
section MGRID
variable {Sh : Sp} {M : Mm} {t γ μ n : Nat} {A : At} {K : Kt} {W : Wt}
theorem m_isCellRole (hL : ML Sh M.2.1 μ) (hP : MP (M.1 (μ + 1)) A K W) {j : Nat} (hj : live A j) : fX7_isCellRole n Sh M μ (nI j) = some (bI (bel false (A j 0))) := by
  unfold fX7_isCellRole fX7_isCellRole_22
  rw [bind_of (mo3 hL hP hj)]
  show _ = some (bI (A j 0 = 9 ∨ A j 0 = 10))
  by_cases c : A j 0 = 9
  · rw [if_pos c, bI_pos (Or.inl c)]
  · rw [if_neg c, bind_of (mo3 hL hP hj)]
    by_cases c2 : A j 0 = 10
    · rw [if_pos c2, bI_pos (Or.inr c2)]
    · rw [if_neg c2, bI_neg (fun z => z.elim c c2)]
theorem m_isCell (hL : ML Sh M.2.1 μ) (hP : MP (M.1 (μ + 1)) A K W) (hW : WF A K) (h0 : A 0 0 = 0) {j : Nat} (hj : live A j) : fX7_isCell n Sh M μ (nI j) = some (bI (isCellP A j)) := by
  unfold fX7_isCell
  rw [bind_of (mo1 hL hP hj), bind_of (m_isCellRole hL hP hj)]
  by_cases hb : bel false (A j 0)
  · rw [i0 hb]
    rcases hW.par hj with e | ⟨r, hr, e⟩
    · rw [e, if_pos (by decide), bI_neg]
      rintro ⟨-, -, r, t, h3, -, h5, -⟩
      rw [e] at h5
      exact nI_ne_neg h3.lt h5.symm
    · rw [e]
      simp only [nI_le0 hr.lt]
      by_cases r0 : r = 0
      · rw [if_pos r0, bI_neg]
        rintro ⟨-, -, r', t', h3, h4, h5, h6, -⟩
        rw [e] at h5
        have := nI_inj hr.lt h3.lt h5
        subst this
        rw [r0, h0] at h6
        exact absurd h6 (by decide)
      · rw [if_neg r0, bind_of (mo3 hL hP hr)]
        by_cases h8 : A r 0 = 8
        · rw [if_pos h8, bind_of (mo1 hL hP hr)]
          obtain ⟨t', ht, e2, -⟩ := hW.2.1 r hr r0
          rw [e2, bind_of (mo3 hL hP ht)]
          by_cases h7 : A t' 0 = 7
          · rw [if_pos h7, bI_pos ⟨hj, hb, r, t', hr, ht, e, h8, e2, h7⟩]
          · rw [if_neg h7, bI_neg]
            rintro ⟨-, -, r', t2, h3, h4, h5, h6, h7', h8'⟩
            rw [e] at h5
            have := nI_inj hr.lt h3.lt h5
            subst this
            rw [e2] at h7'
            have := nI_inj ht.lt h4.lt h7'
            subst this
            exact h7 h8'
        · rw [if_neg h8, bI_neg]
          rintro ⟨-, -, r', t2, h3, h4, h5, h6, -⟩
          rw [e] at h5
          have := nI_inj hr.lt h3.lt h5
          subst this
          exact h8 h6
  · rw [i0n hb, bI_neg (fun z => hb z.2.1)]
theorem m_numberOf (hL : ML Sh M.2.1 μ) (hP : MP (M.1 (μ + 1)) A K W) (hW : WF A K) (hn : 24 < n) (w : Bool) {j p : Nat} (hj : live A j) (hp : live A p) (e : A j 1 = nI p) : fX7_numberOf n Sh M μ (nI j) (if w then 0 else 1) = some (nI (numV A K w j)) := by
  unfold fX7_numberOf fX7_numberOf_5
  obtain ⟨k1, k2, k3⟩ := rank_eq hW hj hp e
  obtain ⟨hr, he⟩ := List.getElem?_eq_some_iff.mp k2
  have hlen := kids_len hW hp
  have ep : pr A j = p := pr_eq hp.lt e
  unfold numV
  rw [ep]
  refine iter_seq (N := rank A K j) (fun i => (nI (fl A w ((K p).take i)).length, nI i)) (fun i hi => ?_) ?_ (by omega) rfl
  · unfold fX7_numberOf_5b fX7_numberOf_59 fX7_numberOf_63 fX7_numberOf_64
    dsimp only
    have hil : i < (K p).length := by omega
    have hli := (hW.2.2.1 p hp (K p)[i] (List.getElem_mem hil)).1
    rw [bind_of (mo2 hL hP hj), if_pos ((nI_ltI (by omega) (by omega)).mpr hi), bind_of (mo1 hL hP hj), e, bind_of (m_childAt hL hP hW hn hp _), kAt_nI (by omega), List.getElem?_eq_getElem hil, show oi (some (K p)[i]) = nI (K p)[i] from rfl, fl_s hil, List.length_append]
    cases w with
    | true =>
      rw [if_pos (show (if true = true then (0 : Int32) else 1) = 0 from rfl), bind_of (mo3 hL hP hli)]
      by_cases c : A (K p)[i] 0 = 8
      · rw [if_pos c, if_pos (cB_pos (show bel true _ from c)), nI_add1, nI_add1]; rfl
      · rw [if_neg c, if_neg (by rw [cB_neg (show ¬ bel true _ from c)]; decide), nI_add1, Int32.add_zero]; rfl
    | false =>
      rw [if_neg (show ¬ (if false = true then (0 : Int32) else 1) = 0 by decide), bind_of (m_isCellRole hL hP hli)]
      by_cases c : bel false (A (K p)[i] 0)
      · rw [i0 c, if_pos (cB_pos c), nI_add1, nI_add1]; rfl
      · rw [i0n c, if_neg (by rw [cB_neg c]; decide), nI_add1, Int32.add_zero]; rfl
  · unfold fX7_numberOf_5b
    dsimp only
    rw [bind_of (mo2 hL hP hj), if_neg (fun z => Nat.lt_irrefl _ ((nI_ltI (by omega) (by omega)).mp z))]
theorem m_numbered (hL : ML Sh M.2.1 μ) (hP : MP (M.1 (μ + 1)) A K W) (hW : WF A K) (hn : 24 < n) (w : Bool) {p : Nat} (hp : live A p) (num : Int32) : fX7_numbered n Sh M μ (nI p) num (if w then 0 else 1) = some (kAt (fl A w (K p)) num) := by
  unfold fX7_numbered fX7_numbered_6
  have hlen := kids_len hW hp
  by_cases c0 : num < 0
  · refine iter_end' (by omega) ?_
    unfold fX7_numbered_6b kAt
    rw [bind_of (m_childMany hL hP hW hn hp), if_pos c0]
    by_cases c1 : (0 : Int32) < nI (K p).length
    · rw [if_pos c1, if_pos c0]
    · rw [if_neg c1, if_pos c0]
  · obtain ⟨q, hq, rfl⟩ := nI_of c0
    obtain ⟨r, er, qq⟩ := iter_inv (f := fun s : Int32 × Int32 => fX7_numbered_6b n Sh M μ (nI p) (nI q) (if w then 0 else 1) s.1 s.2) (K p).length (fun i s => s = (nI (q - (fl A w ((K p).take i)).length), nI i) ∧ (fl A w ((K p).take i)).length ≤ q) (fun r => r = kAt (fl A w (K p)) (nI q)) (fun i s hi hI => by
      obtain ⟨rfl, hI⟩ := hI
      unfold fX7_numbered_6b
      dsimp only
      rw [bind_of (m_childMany hL hP hW hn hp)]
      by_cases hil : i < (K p).length
      · have hli := (hW.2.2.1 p hp (K p)[i] (List.getElem_mem hil)).1
        have hgi : (K p)[i]? = some (K p)[i] := List.getElem?_eq_getElem hil
        rw [if_pos ((nI_ltI (by omega) (by omega)).mpr hil), if_neg c0, bind_of (m_childAt hL hP hW hn hp _), kAt_nI (by omega), hgi, show oi (some (K p)[i]) = nI (K p)[i] from rfl]
        have yes : bel w (A (K p)[i] 0) → (i < (K p).length ∧ ∃ s', fX7_numbered_57 n Sh M μ (nI p) (nI q) (if w then 0 else 1) (nI (q - (fl A w ((K p).take i)).length)) (nI i) (nI (K p)[i]) = some (.inl s') ∧ s' = (nI (q - (fl A w ((K p).take (i + 1))).length), nI (i + 1)) ∧ (fl A w ((K p).take (i + 1))).length ≤ q) ∨ ∃ r, fX7_numbered_57 n Sh M μ (nI p) (nI q) (if w then 0 else 1) (nI (q - (fl A w ((K p).take i)).length)) (nI i) (nI (K p)[i]) = some (.inr r) ∧ r = kAt (fl A w (K p)) (nI q) := by
          intro c
          unfold fX7_numbered_57 fX7_numbered_68
          simp only [nI_eq0 (show q - (fl A w ((K p).take i)).length < 2 ^ 31 by omega)]
          by_cases c2 : q - (fl A w ((K p).take i)).length = 0
          · rw [if_pos c2]
            refine Or.inr ⟨_, rfl, ?_⟩
            rw [show q = (fl A w ((K p).take i)).length from by omega, kAt_nI (by omega), fl_at hgi c]
            rfl
          · rw [if_neg c2]
            refine Or.inl ⟨hil, _, rfl, ?_, ?_⟩
            · rw [fl_s hil, if_pos (cB_pos c), List.length_append, nI_dec (by omega), nI_add1, List.length_singleton, Nat.sub_sub]
            · rw [fl_s hil, if_pos (cB_pos c), List.length_append, List.length_singleton]
              omega
        have no : ¬ bel w (A (K p)[i] 0) → ∃ s', fX7_numbered_68 n Sh M μ (nI p) (nI q) (if w then 0 else 1) (nI (q - (fl A w ((K p).take i)).length)) (nI i) = some (.inl s') ∧ s' = (nI (q - (fl A w ((K p).take (i + 1))).length), nI (i + 1)) ∧ (fl A w ((K p).take (i + 1))).length ≤ q := by
          intro c
          unfold fX7_numbered_68
          refine ⟨_, rfl, ?_, ?_⟩
          · rw [fl_s hil, if_neg (by rw [cB_neg c]; decide), nI_add1, List.append_nil]
          · rw [fl_s hil, if_neg (by rw [cB_neg c]; decide), List.append_nil]
            exact hI
        cases w with
        | true =>
          rw [if_pos (show (if true = true then (0 : Int32) else 1) = 0 from rfl), bind_of (mo3 hL hP hli)]
          by_cases c : A (K p)[i] 0 = 8
          · rw [if_pos c]; exact yes c
          · rw [if_neg c]
            obtain ⟨s', y1, y2, y3⟩ := no c
            exact Or.inl ⟨hil, s', y1, y2, y3⟩
        | false =>
          rw [if_neg (show ¬ (if false = true then (0 : Int32) else 1) = 0 by decide), bind_of (m_isCellRole hL hP hli)]
          by_cases c : bel false (A (K p)[i] 0)
          · rw [i0 c]; exact yes c
          · rw [i0n c]
            obtain ⟨s', y1, y2, y3⟩ := no c
            exact Or.inl ⟨hil, s', y1, y2, y3⟩
      · rw [if_neg (fun z => hil ((nI_ltI (by omega) (by omega)).mp z))]
        refine Or.inr ⟨-1, rfl, ?_⟩
        rw [List.take_of_length_le (by omega)] at hI
        rw [kAt_nI hq, List.getElem?_eq_none_iff.mpr hI]
        rfl) (show (K p).length < n by omega) (s := (nI q, 0)) ⟨rfl, Nat.zero_le _⟩
    rw [er, qq]
theorem m_cellOf (hL : ML Sh M.2.1 μ) (hP : MP (M.1 (μ + 1)) A K W) (hW : WF A K) (hn : 24 < n) {tb : Nat} (ht : live A tb) (r c : Int32) : fX7_cellOf n Sh M μ (nI tb) r c = some (if A tb 0 = 7 then cellV A K tb r c else -1) := by
  unfold fX7_cellOf fX7_cellOf_22 cellV
  rw [bind_of (mo3 hL hP ht)]
  by_cases h7 : A tb 0 = 7
  · rw [if_pos h7, if_pos h7]
    have e1 := m_numbered (n := n) hL hP hW hn true ht r
    rw [if_pos rfl] at e1
    rw [bind_of e1]
    rcases kAt_mem (L := fl A true (K tb)) (v := r) with e | ⟨x, hx, e⟩
    · rw [if_pos e, if_pos e]
    · have hl := (hW.2.2.1 tb ht x (fl_mem.mp hx).1).1
      have e2 := m_numbered (n := n) hL hP hW hn false hl c
      rw [if_neg (by decide)] at e2
      rw [e, if_neg (nI_ne_neg hl.lt), if_neg (nI_ne_neg hl.lt), bind_of e2, nI_clamp hl.lt]
  · rw [if_neg h7, if_neg h7, if_pos rfl]
theorem hl_or (hW : WF A K) {p : Nat} (hp : live A p) (m : Nat) : oi (hl10 A ((K p).take m)).getLast? = -1 ∨ ∃ x, x ∈ (K p).take m ∧ A x 0 = 10 ∧ oi (hl10 A ((K p).take m)).getLast? = nI x := by
  cases h : (hl10 A ((K p).take m)).getLast? with
  | none => exact Or.inl rfl
  | some x =>
    have := List.mem_of_getLast? h
    unfold hl10 at this
    rw [List.mem_filter, cB_iff] at this
    exact Or.inr ⟨x, this.1, this.2, rfl⟩
theorem dnF_or {f : Nat → Int32} (hf : ∀ k, orN A (f k)) : ∀ m, dnF A f m = -1 ∨ ∃ k, k < m ∧ dnF A f m = f k ∧ f k ≠ -1 := by
  intro m
  induction m with
  | zero => exact Or.inl rfl
  | succ m ih =>
    unfold dnF
    by_cases c : rd A (f m) 0 (-1) = 10
    · rw [if_pos c]
      refine Or.inr ⟨m, Nat.lt_succ_self m, rfl, fun z => ?_⟩
      rw [z, rd_neg] at c
      exact absurd c (by decide)
    · rw [if_neg c]
      exact ih.imp id (fun ⟨k, h1, h2⟩ => ⟨k, by omega, h2⟩)
theorem headV_at {j : Nat} (col : Bool) (h : isCellP A j) : headV A K col (nI j) = hdV A K col j := by
  unfold headV
  rw [cif_pos ⟨j, rfl, h⟩, nI_clamp h.1.lt]
theorem headV_no {v : Int32} (col : Bool) (h : ¬ ∃ a, v = nI a ∧ isCellP A a) : headV A K col v = -1 := cif_neg h
theorem m_headerOf (hL : ML Sh M.2.1 μ) (hP : MP (M.1 (μ + 1)) A K W) (hW : WF A K) (h0 : A 0 0 = 0) (hn : 24 < n) {j : Nat} (hj : live A j) (col : Bool) : fX7_headerOf n Sh M μ (nI j) (if col then 1 else 0) = some (headV A K col (nI j)) := by
  unfold fX7_headerOf
  rw [bind_of (m_isCell hL hP hW h0 hj)]
  by_cases hc : isCellP A j
  · rw [i0 hc, headV_at col hc]
    obtain ⟨h1, h2, h3, h4, h5, h6, h7, h8⟩ := cellP_par hc
    have nb := numV_lt hW hc
    rw [bind_of (mo1 hL hP h1), h4, bind_of (mo1 hL hP h2), h6]
    have en : fX7_numberOf n Sh M μ (nI j) 1 = some (nI (numV A K false j)) := by
      have e := m_numberOf (n := n) hL hP hW hn false h1 h2 h4
      rw [if_neg (by decide)] at e
      exact e
    unfold fX7_headerOf_47 fX7_headerOf_52 hdV
    cases col with
    | true =>
      show (if (1 : Int32) = 0 then _ else _) = some (dnF A (fun k => cellV A K (pr A (pr A j)) (nI k) (nI (numV A K false j))) (numV A K true (pr A j)))
      rw [if_neg (by decide)]
      have er := m_numberOf (n := n) hL hP hW hn true h2 h3 h6
      rw [if_pos rfl] at er
      rw [bind_of er]
      have hco := fun k => cellV_or hW h3 (nI k) (nI (numV A K false j))
      refine iter_seq (N := numV A K true (pr A j)) (fun k => (dnF A (fun k => cellV A K (pr A (pr A j)) (nI k) (nI (numV A K false j))) k, nI k)) (fun k hk => ?_) ?_ (by omega) rfl
      · unfold fX7_headerOf_52b fX7_headerOf_88 fX7_headerOf_113 fX7_headerOf_115
        dsimp only
        have ec := m_cellOf (n := n) hL hP hW hn h3 (nI k) (nI (numV A K false j))
        rw [if_pos h7] at ec
        rw [if_pos ((nI_ltI (by omega) (by omega)).mpr hk), if_neg (show ¬ (if true = true then (1 : Int32) else 0) = 0 by decide), bind_of en, bind_of ec, nI_add1]
        conv => rhs; unfold dnF
        rcases hco k with e | ⟨x, hx, e⟩
        · rw [e, if_pos rfl, rd_neg, if_neg (by decide)]
        · rw [e, if_neg (nI_ne_neg hx.lt), bind_of (mo3 hL hP hx), rd_nI hx.1]
          by_cases c : A x 0 = 10
          · rw [if_pos c, if_pos c]
          · rw [if_neg c, if_neg c]
      · unfold fX7_headerOf_52b
        dsimp only
        rw [if_neg (fun z => Nat.lt_irrefl _ ((nI_ltI (by omega) (by omega)).mp z))]
    | false =>
      show (if (0 : Int32) = 0 then _ else _) = some (oi _)
      rw [if_pos rfl, bind_of en]
      have etk : hl10 A ((K (pr A j)).take (rank A K j)) = hl10 A ((fl A false (K (pr A j))).take (numV A K false j)) := by
        unfold numV
        rw [fl_take, hl_fl]
      rw [etk]
      have hnl : numV A K false j ≤ (fl A false (K (pr A j))).length := by
        unfold numV
        rw [← fl_take (K (pr A j)) (rank A K j), List.length_take]
        omega
      refine iter_seq (N := numV A K false j) (fun k => (oi (hl10 A ((fl A false (K (pr A j))).take k)).getLast?, nI k)) (fun k hk => ?_) ?_ (by omega) rfl
      · unfold fX7_headerOf_52b fX7_headerOf_88 fX7_headerOf_113 fX7_headerOf_115
        dsimp only
        have hkl : k < (fl A false (K (pr A j))).length := by omega
        have ec := m_numbered (n := n) hL hP hW hn false h2 (nI k)
        rw [if_neg (by decide), kAt_nI (by omega), List.getElem?_eq_getElem hkl] at ec
        have hx := (hW.2.2.1 _ h2 _ (fl_mem.mp (List.getElem_mem hkl)).1).1
        rw [if_pos ((nI_ltI (by omega) (by omega)).mpr hk), if_pos (show (if false = true then (1 : Int32) else 0) = 0 from rfl), bind_of ec, show oi (some (fl A false (K (pr A j)))[k]) = nI (fl A false (K (pr A j)))[k] from rfl, if_neg (nI_ne_neg hx.lt), bind_of (mo3 hL hP hx), hl_s hkl, nI_add1]
        by_cases c : A (fl A false (K (pr A j)))[k] 0 = 10
        · rw [if_pos c, if_pos c, List.getLast?_concat]
          rfl
        · rw [if_neg c, if_neg c, List.append_nil]
      · unfold fX7_headerOf_52b
        dsimp only
        rw [if_neg (fun z => Nat.lt_irrefl _ ((nI_ltI (by omega) (by omega)).mp z))]
  · rw [i0n hc, headV_no col (fun ⟨a, e, ha⟩ => hc (by have := nI_inj hj.lt ha.1.lt e; subst this; exact ha))]
theorem m_beside (hL : ML Sh M.2.1 μ) (hP : MP (M.1 (μ + 1)) A K W) (hW : WF A K) (hn : 24 < n) {j : Nat} (hc : isCellP A j) (d : Int32) (hd : ¬ d < 0) : fX7_beside n Sh M μ (nI j) d = some (bsV A K j d) := by
  obtain ⟨h1, h2, h3, h4, h5, h6, h7, h8⟩ := cellP_par hc
  have nb := numV_lt hW hc
  unfold fX7_beside fX7_beside_37 fX7_beside_73 bsV
  have en : fX7_numberOf n Sh M μ (nI j) 1 = some (nI (numV A K false j)) := by
    have e := m_numberOf (n := n) hL hP hW hn false h1 h2 h4
    rw [if_neg (by decide)] at e
    exact e
  have er : fX7_numberOf n Sh M μ (nI (pr A j)) 0 = some (nI (numV A K true (pr A j))) := by
    have e := m_numberOf (n := n) hL hP hW hn true h2 h3 h6
    rw [if_pos rfl] at e
    exact e
  have ed : ∀ v, fX7_numbered n Sh M μ (nI (pr A j)) v 1 = some (kAt (fl A false (K (pr A j))) v) := fun v => by
    have e := m_numbered (n := n) hL hP hW hn false h2 v
    rw [if_neg (by decide)] at e
    exact e
  have ec : ∀ r c, fX7_cellOf n Sh M μ (nI (pr A (pr A j))) r c = some (cellV A K (pr A (pr A j)) r c) := fun r c => by
    rw [m_cellOf hL hP hW hn h3, if_pos h7]
  rw [bind_of (mo1 hL hP h1), h4, bind_of en]
  obtain ⟨q, hq, rfl⟩ := nI_of hd
  have l2 : (nI q < 2) = (q < 2) := lt_nI (b := 2) hq (by decide)
  have q0 : (nI q = 0) = (q = 0) := nI_eq0 hq
  have q1 : (nI q = 1) = (q = 1) := eq_nI (b := 1) hq (by decide)
  have q2 : (nI q = 2) = (q = 2) := eq_nI (b := 2) hq (by decide)
  simp only [l2, q0, q1, q2, chk_pos hL.1]
  by_cases d0 : q = 0
  · rw [if_pos (by omega), if_pos d0, if_pos d0, bind_of (ed _)]
  · rw [if_neg d0, if_neg d0]
    by_cases d1 : q = 1
    · rw [if_pos (by omega), if_pos d1, bind_of (ed _)]
    · rw [if_neg (by omega), if_neg d1, bind_of er, bind_of (mo1 hL hP h2), h6]
      by_cases d2 : q = 2
      · rw [if_pos d2, if_pos d2, bind_of (ec _ _)]
      · rw [if_neg d2, if_neg d2, bind_of (ec _ _)]
/-- where a header lies -/
theorem hd_row (hW : WF A K) {j : Nat} (hc : isCellP A j) : hdV A K false j = -1 ∨ ∃ x, live A x ∧ x ∈ K (pr A j) ∧ x ≠ j ∧ hdV A K false j = nI x := by
  obtain ⟨h1, h2, h3, h4, h5, h6, h7, h8⟩ := cellP_par hc
  rcases hl_or hW h2 (rank A K j) with e | ⟨x, hx, -, e⟩
  · exact Or.inl e
  · have hm := List.mem_of_mem_take hx
    refine Or.inr ⟨x, (hW.2.2.1 _ h2 x hm).1, hm, fun z => ?_, e⟩
    subst z
    obtain ⟨i, hi, e2⟩ := List.mem_iff_getElem.mp hx
    rw [List.length_take] at hi
    rw [List.getElem_take] at e2
    have := idx_get (hW.2.2.2.1 _ h2) (r := i) (k := x) (by rw [List.getElem?_eq_getElem (by omega), e2])
    have := (rank_eq hW h1 h2 h4).1
    omega
theorem hd_col (hW : WF A K) {j : Nat} (hc : isCellP A j) : hdV A K true j = -1 ∨ ∃ x r, live A x ∧ live A r ∧ x ∈ K r ∧ r ∈ K (pr A (pr A j)) ∧ r ≠ pr A j ∧ hdV A K true j = nI x := by
  obtain ⟨h1, h2, h3, h4, h5, h6, h7, h8⟩ := cellP_par hc
  rcases dnF_or (f := fun k => cellV A K (pr A (pr A j)) (nI k) (nI (numV A K false j))) (fun k => cellV_or hW h3 _ _) (numV A K true (pr A j)) with e | ⟨k, hk, e, hne⟩
  · exact Or.inl e
  · have nb := numV_lt hW hc
    refine Or.inr ?_
    have e' : hdV A K true j = cellV A K (pr A (pr A j)) (nI k) (nI (numV A K false j)) := e
    rw [e']
    unfold cellV at hne ⊢
    have hrow : (fl A true (K (pr A (pr A j))))[numV A K true (pr A j)]? = some (pr A j) := fl_at (rank_eq hW h2 h3 h6).2.1 (show bel true (A (pr A j) 0) from h5)
    have hkl : k < (fl A true (K (pr A (pr A j)))).length := by have := (List.getElem?_eq_some_iff.mp hrow).1; omega
    have ek : kAt (fl A true (K (pr A (pr A j)))) (nI k) = nI (fl A true (K (pr A (pr A j))))[k] := by rw [kAt_nI (by omega), List.getElem?_eq_getElem hkl]; rfl
    have hm := fl_mem.mp (List.getElem_mem hkl)
    have hr := (hW.2.2.1 _ h3 _ hm.1).1
    have hrne : (fl A true (K (pr A (pr A j))))[k] ≠ pr A j := fun z => by
      have nd : (fl A true (K (pr A (pr A j)))).Nodup := (hW.2.2.2.1 _ h3).sublist List.filter_sublist
      have a1 := idx_get nd (r := k) (k := pr A j) (by rw [List.getElem?_eq_getElem hkl, z])
      have a2 := idx_get nd hrow
      omega
    rw [ek, if_neg (nI_ne_neg hr.lt), nI_clamp hr.lt] at hne ⊢
    rcases kAt_mem (L := fl A false (K (fl A true (K (pr A (pr A j))))[k])) (v := nI (numV A K false j)) with e2 | ⟨x, hx, e2⟩
    · exact absurd e2 hne
    · have hxm := (fl_mem.mp hx).1
      exact ⟨x, _, (hW.2.2.1 _ hr x hxm).1, hr, hxm, hm.1, hrne, e2⟩
theorem headV_or (hW : WF A K) (col : Bool) {j : Nat} (hc : isCellP A j) : orN A (headV A K col (nI j)) := by
  rw [headV_at col hc]
  cases col with
  | true =>
    rcases hd_col hW hc with e | ⟨x, r, hx, -, -, -, -, e⟩
    · exact Or.inl e
    · exact Or.inr ⟨x, hx, e⟩
  | false =>
    rcases hd_row hW hc with e | ⟨x, hx, -, -, e⟩
    · exact Or.inl e
    · exact Or.inr ⟨x, hx, e⟩
/-- what is read isn't long -/
theorem rd_le (hW : WF A K) (hA : WA A W) {j : Nat} (hc : isCellP A j) (rdl : Int32) : (jns [] (rdW A K W rdl j)).length ≤ 240 := by
  obtain ⟨h1, h2, h3, h4, h5, h6, h7, h8⟩ := cellP_par hc
  have hjk := (hW.kid h1 h2.1 h4).2
  have hrk := (hW.kid h2 h3.1 h6).2
  -- the nodes whose parts are joined
  have tot : ∃ L : List Nat, L.Nodup ∧ (∀ k ∈ L, live A k ∧ dp A k = dp A j) ∧ (rdW A K W rdl j).length ≤ (L.flatMap (pre K)).length ∧ ∀ p ∈ rdW A K W rdl j, p.length ≤ 8 := by
    have hw : ∀ col, (hdrW A K W rdl j col = []) ∨ ∃ x, live A x ∧ headV A K col (nI j) = nI x ∧ hdrW A K W rdl j col = partW A K W x := fun col => by
      unfold hdrW
      by_cases c : headV A K col (nI j) = -1 ∨ headV A K col (nI j) = headV A K col rdl
      · exact Or.inl (cif_pos c)
      · rw [cif_neg c]
        rcases headV_or hW col hc with e | ⟨x, hx, e⟩
        · exact absurd (Or.inl e) c
        · exact Or.inr ⟨x, hx, e, by rw [e, nI_clamp hx.lt]⟩
    have pj := partW_ok hW hA h1
    have hdr := dp_kid hW h2 hjk
    have hdt := dp_kid hW h3 hrk
    have rowx : ∀ x, headV A K false (nI j) = nI x → live A x → dp A x = dp A j ∧ x ≠ j ∧ x ∈ K (pr A j) := fun x e hx => by
      rw [headV_at false hc] at e
      rcases hd_row hW hc with e2 | ⟨y, hy, hm, hne, e2⟩
      · rw [e2] at e; exact absurd e.symm (nI_ne_neg hx.lt)
      · have := nI_inj hy.lt hx.lt (e2.symm.trans e)
        subst this
        have := dp_kid hW h2 hm
        exact ⟨by omega, hne, hm⟩
    have colx : ∀ x, headV A K true (nI j) = nI x → live A x → dp A x = dp A j ∧ x ∉ K (pr A j) := fun x e hx => by
      rw [headV_at true hc] at e
      rcases hd_col hW hc with e2 | ⟨y, r, hy, hr, hm, hrt, hne, e2⟩
      · rw [e2] at e; exact absurd e.symm (nI_ne_neg hx.lt)
      · have := nI_inj hy.lt hx.lt (e2.symm.trans e)
        subst this
        have a1 := dp_kid hW h3 hrt
        have a2 := dp_kid hW hr hm
        refine ⟨by omega, fun z => hne ?_⟩
        have b1 := (hW.2.2.1 r hr y hm).2
        have b2 := (hW.2.2.1 _ h2 y z).2
        exact nI_inj hr.lt h2.lt (b1.symm.trans b2)
    unfold rdW
    rcases hw false with e1 | ⟨x, hx, ex, e1⟩
    · rcases hw true with e2 | ⟨y, hy, ey, e2⟩
      · refine ⟨[j], by simp, fun k hk => by rw [List.mem_singleton.mp hk]; exact ⟨h1, rfl⟩, ?_, ?_⟩
        · rw [e1, e2, List.flatMap_cons, List.flatMap_nil, List.append_nil, List.append_nil, List.nil_append]; exact pj.1
        · rw [e1, e2]; exact pj.2
      · obtain ⟨d1, n1⟩ := colx y ey hy
        have py := partW_ok hW hA hy
        refine ⟨[y, j], by simp; exact fun z => n1 (by rw [z]; exact hjk), fun k hk => ?_, ?_, fun p hp => ?_⟩
        · rcases List.mem_cons.mp hk with z | z
          · rw [z]; exact ⟨hy, d1⟩
          · rw [List.mem_singleton.mp z]; exact ⟨h1, rfl⟩
        · rw [e1, e2, List.flatMap_cons, List.flatMap_cons, List.flatMap_nil, List.append_nil, List.nil_append, List.length_append, List.length_append]
          have := py.1; have := pj.1; omega
        · rw [e1, e2, List.nil_append] at hp
          exact (List.mem_append.mp hp).elim (py.2 p) (pj.2 p)
    · obtain ⟨d0, n0, m0⟩ := rowx x ex hx
      have px := partW_ok hW hA hx
      rcases hw true with e2 | ⟨y, hy, ey, e2⟩
      · refine ⟨[x, j], by simp; exact n0, fun k hk => ?_, ?_, fun p hp => ?_⟩
        · rcases List.mem_cons.mp hk with z | z
          · rw [z]; exact ⟨hx, d0⟩
          · rw [List.mem_singleton.mp z]; exact ⟨h1, rfl⟩
        · rw [e1, e2, List.flatMap_cons, List.flatMap_cons, List.flatMap_nil, List.append_nil, List.append_nil, List.length_append, List.length_append]
          have := px.1; have := pj.1; omega
        · rw [e1, e2, List.append_nil] at hp
          exact (List.mem_append.mp hp).elim (px.2 p) (pj.2 p)
      · obtain ⟨d1, n1⟩ := colx y ey hy
        have py := partW_ok hW hA hy
        refine ⟨[x, y, j], ?_, fun k hk => ?_, ?_, fun p hp => ?_⟩
        · simp
          exact ⟨⟨fun z => n1 (by rw [← z]; exact m0), n0⟩, fun z => n1 (by rw [z]; exact hjk)⟩
        · rcases List.mem_cons.mp hk with z | z
          · rw [z]; exact ⟨hx, d0⟩
          · rcases List.mem_cons.mp z with z | z
            · rw [z]; exact ⟨hy, d1⟩
            · rw [List.mem_singleton.mp z]; exact ⟨h1, rfl⟩
        · rw [e1, e2, List.flatMap_cons, List.flatMap_cons, List.flatMap_cons, List.flatMap_nil, List.append_nil, List.length_append, List.length_append, List.length_append, List.length_append]
          have := px.1; have := py.1; have := pj.1; omega
        · rw [e1, e2] at hp
          rcases List.mem_append.mp hp with hp | hp
          · exact (List.mem_append.mp hp).elim (px.2 p) (py.2 p)
          · exact pj.2 p hp
  obtain ⟨L, l1, l2, l3, l4⟩ := tot
  have b1 := flat_len hW (dp A j) L l1 l2
  have b2 := jns_le _ l4 []
  rw [List.length_nil] at b2
  omega
end MGRID
