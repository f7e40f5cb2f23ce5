/-! ===== LEVEL 2: tables ===== -/
def bel (w : Bool) (r : Int32) : Prop := if w then r = 8 else (r = 9 ∨ r = 10)
noncomputable def fl (A : At) (w : Bool) (L : List Nat) : List Nat := L.filter (fun k => cB (bel w (A k 0)))
noncomputable def hl10 (A : At) (L : List Nat) : List Nat := L.filter (fun k => cB (A k 0 = 10))
def pr (A : At) (j : Nat) : Nat := (A j 1).toNatClampNeg
noncomputable def numV (A : At) (K : Kt) (w : Bool) (j : Nat) : Nat := (fl A w ((K (pr A j)).take (rank A K j))).length
noncomputable def cellV (A : At) (K : Kt) (t : Nat) (r c : Int32) : Int32 := if kAt (fl A true (K t)) r = -1 then -1 else kAt (fl A false (K (kAt (fl A true (K t)) r).toNatClampNeg)) c
def isCellP (A : At) (j : Nat) : Prop := live A j ∧ bel false (A j 0) ∧ ∃ r t, live A r ∧ live A t ∧ A j 1 = nI r ∧ A r 0 = 8 ∧ A r 1 = nI t ∧ A t 0 = 7
/-- the last one that is found, from k - 1 down -/
noncomputable def dnF (A : At) (f : Nat → Int32) : Nat → Int32
  | 0 => -1
  | k + 1 => if rd A (f k) 0 (-1) = 10 then f k else dnF A f k
noncomputable def hdV (A : At) (K : Kt) (col : Bool) (j : Nat) : Int32 := if col then dnF A (fun k => cellV A K (pr A (pr A j)) (nI k) (nI (numV A K false j))) (numV A K true (pr A j)) else oi (hl10 A ((K (pr A j)).take (rank A K j))).getLast?
noncomputable def headV (A : At) (K : Kt) (col : Bool) (v : Int32) : Int32 := cif (∃ a, v = nI a ∧ isCellP A a) (hdV A K col v.toNatClampNeg) (-1)
noncomputable def bsV (A : At) (K : Kt) (j : Nat) (d : Int32) : Int32 := if d = 0 then kAt (fl A false (K (pr A j))) (nI (numV A K false j) - 1) else if d = 1 then kAt (fl A false (K (pr A j))) (nI (numV A K false j) + 1) else if d = 2 then cellV A K (pr A (pr A j)) (nI (numV A K true (pr A j)) - 1) (nI (numV A K false j)) else cellV A K (pr A (pr A j)) (nI (numV A K true (pr A j)) + 1) (nI (numV A K false j))
theorem fl_mem {A : At} {w : Bool} {L : List Nat} {x : Nat} : x ∈ fl A w L ↔ x ∈ L ∧ bel w (A x 0) := by
  unfold fl
  rw [List.mem_filter, cB_iff]
theorem fl_len {A : At} {w : Bool} (L : List Nat) : (fl A w L).length ≤ L.length := List.length_filter_le _ _
theorem fl_app {A : At} {w : Bool} (L L' : List Nat) : fl A w (L ++ L') = fl A w L ++ fl A w L' := List.filter_append ..
theorem fl_take {A : At} {w : Bool} (L : List Nat) (n : Nat) : (fl A w L).take (fl A w (L.take n)).length = fl A w (L.take n) := by
  have h : fl A w L = fl A w (L.take n) ++ fl A w (L.drop n) := by rw [← fl_app, List.take_append_drop]
  rw [h, List.take_left']
  rfl
theorem fl_one {A : At} {w : Bool} {x : Nat} : fl A w [x] = if cB (bel w (A x 0)) = true then [x] else [] := by
  unfold fl
  rw [List.filter_cons]
  rfl
theorem take_s {L : List Nat} {j : Nat} (h : j < L.length) : L.take (j + 1) = L.take j ++ [L[j]] := List.take_succ_eq_append_getElem h
theorem fl_s {A : At} {w : Bool} {L : List Nat} {j : Nat} (h : j < L.length) : fl A w (L.take (j + 1)) = fl A w (L.take j) ++ if cB (bel w (A L[j] 0)) = true then [L[j]] else [] := by
  rw [take_s h, fl_app, fl_one]
theorem hl_s {A : At} {L : List Nat} {j : Nat} (h : j < L.length) : hl10 A (L.take (j + 1)) = hl10 A (L.take j) ++ if A L[j] 0 = 10 then [L[j]] else [] := by
  unfold hl10
  rw [take_s h, List.filter_append, List.filter_cons]
  by_cases c : A L[j] 0 = 10
  · rw [if_pos (cB_pos c), if_pos c]; rfl
  · rw [if_neg (by rw [cB_neg c]; decide), if_neg c]; rfl
theorem hl_fl {A : At} (L : List Nat) : hl10 A (fl A false L) = hl10 A L := by
  unfold hl10 fl
  rw [List.filter_filter]
  apply List.filter_congr
  intro x _
  by_cases c : A x 0 = 10
  · rw [cB_pos c, cB_pos (show bel false (A x 0) from Or.inr c)]; rfl
  · rw [cB_neg c]; rfl
theorem fl_at {A : At} {w : Bool} {L : List Nat} {r x : Nat} (hx : L[r]? = some x) (hb : bel w (A x 0)) : (fl A w L)[(fl A w (L.take r)).length]? = some x := by
  obtain ⟨hr, e⟩ := List.getElem?_eq_some_iff.mp hx
  have h : fl A w L = fl A w (L.take r) ++ (x :: fl A w (L.drop (r + 1))) := by
    rw [← List.take_append_drop r L, fl_app, List.take_append_drop, List.drop_eq_getElem_cons hr, e]
    congr 1
    unfold fl
    rw [List.filter_cons, if_pos (cB_pos hb)]
  rw [h, List.getElem?_append_right (Nat.le_refl _), Nat.sub_self]
  rfl
theorem kAt_mem {L : List Nat} {v : Int32} : kAt L v = -1 ∨ ∃ x, x ∈ L ∧ kAt L v = nI x := by
  unfold kAt
  by_cases c : v < 0
  · rw [if_pos c]; exact Or.inl rfl
  · rw [if_neg c]
    cases h : L[v.toNatClampNeg]? with
    | none => exact Or.inl rfl
    | some x => exact Or.inr ⟨x, List.mem_of_getElem? h, rfl⟩
section GRID
variable {Sh : Sp} {M : Mm} {t γ μ n : Nat} {A : At} {K : Kt} {W : Wt}
theorem pr_eq {j p : Nat} (hp : p < 2 ^ 31) (e : A j 1 = nI p) : pr A j = p := by unfold pr; rw [e, nI_clamp hp]
theorem cellP_par {j : Nat} (h : isCellP A j) : live A j ∧ live A (pr A j) ∧ live A (pr A (pr A j)) ∧ A j 1 = nI (pr A j) ∧ A (pr A j) 0 = 8 ∧ A (pr A j) 1 = nI (pr A (pr A j)) ∧ A (pr A (pr A j)) 0 = 7 ∧ bel false (A j 0) := by
  obtain ⟨h1, h2, r, t, h3, h4, h5, h6, h7, h8⟩ := h
  have e := pr_eq h3.lt h5
  have e2 := pr_eq h4.lt h7
  rw [e, e2]
  exact ⟨h1, h3, h4, h5, h6, h7, h8, h2⟩
theorem fl_or (hW : WF A K) {p : Nat} (hp : live A p) {w : Bool} (v : Int32) : orN A (kAt (fl A w (K p)) v) := by
  rcases kAt_mem (L := fl A w (K p)) (v := v) with e | ⟨x, hx, e⟩
  · exact Or.inl e
  · exact Or.inr ⟨x, (hW.2.2.1 p hp x (fl_mem.mp hx).1).1, e⟩
theorem cellV_or (hW : WF A K) {t : Nat} (ht : live A t) (r c : Int32) : orN A (cellV A K t r c) := by
  unfold cellV
  rcases kAt_mem (L := fl A true (K t)) (v := r) with e | ⟨x, hx, e⟩
  · rw [if_pos e]; exact Or.inl rfl
  · have hl := (hW.2.2.1 t ht x (fl_mem.mp hx).1).1
    rw [e, if_neg (nI_ne_neg hl.lt), nI_clamp hl.lt]
    exact fl_or hW hl c
theorem numV_lt (hW : WF A K) {j : Nat} (h : isCellP A j) : numV A K false j ≤ 24 ∧ numV A K true (pr A j) ≤ 24 := by
  obtain ⟨h1, h2, h3, h4, h5, h6, h7, h8⟩ := cellP_par h
  have l1 := kids_len hW h2
  have l2 := kids_len hW h3
  unfold numV
  have f1 := fl_len (A := A) (w := false) ((K (pr A j)).take (rank A K j))
  have f2 := fl_len (A := A) (w := true) ((K (pr A (pr A j))).take (rank A K (pr A j)))
  rw [List.length_take] at f1 f2
  omega
-- the class
theorem c_belongs (r : Int32) (w : Bool) : fX0_belongs n Sh M r (if w then 1 else 0) = some (bI (bel w r)) := by
  unfold fX0_belongs fX0_belongs_30 bel
  cases w with
  | true =>
    rw [if_pos rfl, if_pos rfl, if_neg (by decide)]
    by_cases c : r = 8
    · rw [if_pos c, bI_pos c]
    · rw [if_neg c, bI_neg c]
  | false =>
    show (if (0 : Int32) = 0 then _ else _) = some (bI (r = 9 ∨ r = 10))
    rw [if_pos rfl]
    by_cases c : r = 9
    · rw [if_pos c, bI_pos (Or.inl c)]
    · rw [if_neg c]
      by_cases c2 : r = 10
      · rw [if_pos c2, bI_pos (Or.inr c2)]
      · rw [if_neg c2, bI_neg (fun z => z.elim c c2)]
def GR (M : Mm) (γ t : Nat) : Prop := M.2.1 γ 0 = some t
theorem c_isCell (hg : GR M γ t) (h : CT Sh M t A K W) (hW : WF A K) {v : Int32} (hv : orN A v) : fX0_isCell n Sh M γ v = some (bI (∃ a, v = nI a ∧ isCellP A a)) := by
  unfold fX0_isCell
  rw [tF_of hg, chk_pos h.1.1, bind_of (c_parentOf h _), tF_of hg, chk_pos h.1.1, bind_of (c_roleOf h _)]
  rcases hv with e | ⟨a, ha, e⟩
  · subst e
    rw [rd_neg, rd_neg, show fX0_belongs n Sh M (-1) 0 = some 0 from rfl, bindS, if_pos rfl, bI_neg]
    rintro ⟨a, e, ha⟩
    exact nI_ne_neg ha.1.lt e.symm
  · subst e
    have hex : (∃ b, nI a = nI b ∧ isCellP A b) ↔ isCellP A a := ⟨fun ⟨b, e, hb⟩ => by have := nI_inj ha.lt hb.1.lt e; subst this; exact hb, fun z => ⟨a, rfl, z⟩⟩
    rw [bI_congr hex, rd_nI ha.1, rd_nI ha.1, show fX0_belongs n Sh M (A a 0) 0 = some (bI (bel false (A a 0))) from c_belongs (A a 0) false, bindS]
    by_cases hb : bel false (A a 0)
    · rw [i0 hb, tF_of hg, chk_pos h.1.1, bind_of (c_roleOf h _)]
      rcases hW.par ha with e | ⟨r, hr, e⟩
      · rw [e, rd_neg, if_neg (by decide), bI_neg]
        rintro ⟨-, -, r, t, h3, -, h5, -⟩
        rw [e] at h5
        exact nI_ne_neg h3.lt h5.symm
      · rw [e, rd_nI hr.1]
        by_cases h8 : A r 0 = 8
        · rw [if_pos h8, tF_of hg, tF_of hg, chk_pos h.1.1, bind_of (c_parentOf h _), rd_nI hr.1, chk_pos h.1.1, bind_of (c_roleOf h _)]
          rcases hW.par hr with e2 | ⟨t', ht, e2⟩
          · rw [e2, rd_neg, if_neg (by decide), bI_neg]
            rintro ⟨-, -, r', t', h3, h4, h5, h6, h7, -⟩
            rw [e] at h5
            have := nI_inj hr.lt h3.lt h5
            subst this
            rw [e2] at h7
            exact nI_ne_neg h4.lt h7.symm
          · rw [e2, rd_nI ht.1]
            by_cases h7 : A t' 0 = 7
            · rw [if_pos h7, bI_pos ⟨ha, hb, r, t', hr, ht, e, h8, e2, h7⟩]
            · rw [if_neg h7, bI_neg]
              rintro ⟨-, -, r', t2, h3, h4, h5, h6, h7', h8'⟩
              rw [e] at h5
              have := nI_inj hr.lt h3.lt h5
              subst this
              rw [e2] at h7'
              have := nI_inj ht.lt h4.lt h7'
              subst this
              exact h7 h8'
        · rw [if_neg h8, bI_neg]
          rintro ⟨-, -, r', t2, h3, h4, h5, h6, -⟩
          rw [e] at h5
          have := nI_inj hr.lt h3.lt h5
          subst this
          exact h8 h6
    · rw [i0n hb, bI_neg (fun z => hb z.2.1)]
theorem c_numberOf (hg : GR M γ t) (h : CT Sh M t A K W) (hW : WF A K) (hn : 24 < n) (w : Bool) {j p : Nat} (hj : live A j) (hp : live A p) (e : A j 1 = nI p) : fX0_numberOf n Sh M γ (nI j) (if w then 1 else 0) = some (nI (numV A K w j)) := by
  unfold fX0_numberOf fX0_numberOf_15
  rw [tF_of hg, chk_pos h.1.1, bind_of (c_parentOf h _), rd_nI hj.1, e]
  obtain ⟨k1, k2, k3⟩ := rank_eq hW hj hp e
  obtain ⟨hr, he⟩ := List.getElem?_eq_some_iff.mp k2
  have hlen := kids_len hW hp
  have ep : pr A j = p := pr_eq hp.lt e
  unfold numV
  rw [ep]
  refine iter_seq (N := rank A K j) (fun i => (nI (fl A w ((K p).take i)).length, nI i)) (fun i hi => ?_) ?_ (by omega) rfl
  · unfold fX0_numberOf_15b fX0_numberOf_69
    dsimp only
    have hil : i < (K p).length := by omega
    have hli := (hW.2.2.1 p hp (K p)[i] (List.getElem_mem hil)).1
    rw [tF_of hg, chk_pos h.1.1, bind_of (c_kidCount h hp.1), if_pos ((nI_ltI (by omega) (by omega)).mpr hil), tF_of hg, chk_pos h.1.1, bind_of (c_kidAt h hp.1 _), kAt_nI (by omega), List.getElem?_eq_getElem hil]
    have hne : ¬ oi (some (K p)[i]) = nI j := fun z => by
      have := nI_inj hli.lt hj.lt z
      have h2 := idx_get (hW.2.2.2.1 p hp) (r := i) (k := j) (by rw [List.getElem?_eq_getElem hil, this])
      omega
    rw [if_neg hne, tF_of hg, tF_of hg, chk_pos h.1.1, bind_of (c_kidAt h hp.1 _), kAt_nI (by omega), List.getElem?_eq_getElem hil, chk_pos h.1.1, show oi (some (K p)[i]) = nI (K p)[i] from rfl, bind_of (c_roleOf h _), rd_nI hli.1, bind_of (c_belongs _ w), fl_s hil, List.length_append]
    by_cases c : bel w (A (K p)[i] 0)
    · rw [i0 c, if_pos (cB_pos c), nI_add1, nI_add1]; rfl
    · rw [i0n c, if_neg (by rw [cB_neg c]; decide), nI_add1]; rfl
  · unfold fX0_numberOf_15b
    dsimp only
    rw [tF_of hg, chk_pos h.1.1, bind_of (c_kidCount h hp.1), if_pos ((nI_ltI (by omega) (by omega)).mpr hr), tF_of hg, chk_pos h.1.1, bind_of (c_kidAt h hp.1 _), kAt_nI (by omega), k2, if_pos (show oi (some j) = nI j from rfl)]
theorem c_pick (hg : GR M γ t) (h : CT Sh M t A K W) (hW : WF A K) (hn : 24 < n) (w : Bool) {v : Int32} (hv : orN A v) (num : Int32) : fX0_pick n Sh M γ v num (if w then 1 else 0) = some (if v = -1 then -1 else kAt (fl A w (K v.toNatClampNeg)) num) := by
  unfold fX0_pick fX0_pick_6
  rcases hv with e | ⟨p, hp, e⟩
  · subst e
    rw [if_pos rfl]
    refine iter_end' (by omega) ?_
    unfold fX0_pick_6b
    dsimp only
    rw [tF_of hg, chk_pos h.1.1, bind_of c_kidCount_neg, if_neg (by decide)]
  · subst e
    have hlen := kids_len hW hp
    rw [if_neg (nI_ne_neg hp.lt), nI_clamp hp.lt]
    obtain ⟨r, er, q⟩ := iter_inv (f := fun s : Int32 × Int32 => fX0_pick_6b n Sh M γ (nI p) num (if w then 1 else 0) s.1 s.2) (K p).length (fun i s => s = (nI (fl A w ((K p).take i)).length, nI i) ∧ (∀ q, q < (fl A w ((K p).take i)).length → num ≠ nI q)) (fun r => r = kAt (fl A w (K p)) num) (fun i s hi hI => by
      obtain ⟨rfl, hI⟩ := hI
      have fb := fl_len (A := A) (w := w) ((K p).take i)
      rw [List.length_take] at fb
      unfold fX0_pick_6b fX0_pick_59
      dsimp only
      rw [tF_of hg, chk_pos h.1.1, bind_of (c_kidCount h hp.1)]
      by_cases hil : i < (K p).length
      · have hli := (hW.2.2.1 p hp (K p)[i] (List.getElem_mem hil)).1
        have hgi : (K p)[i]? = some (K p)[i] := List.getElem?_eq_getElem hil
        rw [if_pos ((nI_ltI (by omega) (by omega)).mpr hil), tF_of hg, chk_pos h.1.1, bind_of (c_kidAt h hp.1 _), kAt_nI (by omega), hgi, tF_of hg, chk_pos h.1.1, show oi (some (K p)[i]) = nI (K p)[i] from rfl, bind_of (c_roleOf h _), rd_nI hli.1, bind_of (c_belongs _ w)]
        by_cases c : bel w (A (K p)[i] 0)
        · rw [i0 c]
          by_cases c2 : nI (fl A w ((K p).take i)).length = num
          · rw [if_pos c2]
            refine Or.inr ⟨_, rfl, ?_⟩
            rw [← c2, kAt_nI (by omega), fl_at hgi c]
            rfl
          · rw [if_neg c2]
            refine Or.inl ⟨hil, _, rfl, ?_, fun q hq => ?_⟩
            · rw [fl_s hil, if_pos (cB_pos c), List.length_append, nI_add1, nI_add1]; rfl
            · rw [fl_s hil, if_pos (cB_pos c), List.length_append, List.length_singleton] at hq
              by_cases e : q = (fl A w ((K p).take i)).length
              · rw [e]; exact fun z => c2 z.symm
              · exact hI q (by omega)
        · rw [i0n c]
          refine Or.inl ⟨hil, _, rfl, ?_, fun q hq => ?_⟩
          · rw [fl_s hil, if_neg (by rw [cB_neg c]; decide), nI_add1, List.append_nil]
          · rw [fl_s hil, if_neg (by rw [cB_neg c]; decide), List.append_nil] at hq
            exact hI q hq
      · rw [if_neg (fun z => hil ((nI_ltI (by omega) (by omega)).mp z))]
        refine Or.inr ⟨-1, rfl, ?_⟩
        rw [List.take_of_length_le (by omega)] at hI
        unfold kAt
        by_cases c : num < 0
        · rw [if_pos c]
        · rw [if_neg c]
          obtain ⟨q, hq, e⟩ := nI_of c
          rw [e, nI_clamp hq]
          have : (fl A w (K p))[q]? = none := List.getElem?_eq_none_iff.mpr (Classical.byContradiction fun z => hI q (by omega) e)
          rw [this]
          rfl) (show (K p).length < n by omega) (s := (0, 0)) ⟨rfl, fun q hq => absurd hq (Nat.not_lt_zero q)⟩
    rw [er, q]
theorem c_cellIn (hg : GR M γ t) (h : CT Sh M t A K W) (hW : WF A K) (hn : 24 < n) {tb : Nat} (ht : live A tb) (r c : Int32) : fX0_cellIn n Sh M γ (nI tb) r c = some (cellV A K tb r c) := by
  unfold fX0_cellIn cellV
  have e1 := c_pick (n := n) hg h hW hn true (Or.inr ⟨tb, ht, rfl⟩) r
  rw [if_pos rfl, if_neg (nI_ne_neg ht.lt), nI_clamp ht.lt] at e1
  rw [bind_of e1]
  have e2 := c_pick (n := n) hg h hW hn false (fl_or hW ht (w := true) r) c
  rw [if_neg (by decide)] at e2
  rw [bind_of e2]
theorem c_rowOf (hg : GR M γ t) (h : CT Sh M t A K W) (hW : WF A K) (hn : 24 < n) {j : Nat} (hc : isCellP A j) : fX0_rowOf n Sh M γ (nI j) = some (nI (numV A K true (pr A j))) := by
  obtain ⟨h1, h2, h3, h4, h5, h6, h7, h8⟩ := cellP_par hc
  unfold fX0_rowOf
  rw [tF_of hg, chk_pos h.1.1, bind_of (c_parentOf h _), rd_nI h1.1, h4]
  have e := c_numberOf (n := n) hg h hW hn true h2 h3 h6
  rw [if_pos rfl] at e
  rw [bind_of e]
theorem c_columnOf (hg : GR M γ t) (h : CT Sh M t A K W) (hW : WF A K) (hn : 24 < n) {j : Nat} (hc : isCellP A j) : fX0_columnOf n Sh M γ (nI j) = some (nI (numV A K false j)) := by
  obtain ⟨h1, h2, h3, h4, h5, h6, h7, h8⟩ := cellP_par hc
  unfold fX0_columnOf
  have e := c_numberOf (n := n) hg h hW hn false h1 h2 h4
  rw [if_neg (by decide)] at e
  rw [bind_of e]
theorem c_headerOf (hg : GR M γ t) (h : CT Sh M t A K W) (hW : WF A K) (hn : 24 < n) {v : Int32} (hv : orN A v) (col : Bool) : fX0_headerOf n Sh M γ v (if col then 1 else 0) = some (headV A K col v) := by
  unfold fX0_headerOf headV
  rw [bind_of (c_isCell hg h hW hv)]
  by_cases c : ∃ a, v = nI a ∧ isCellP A a
  · rw [i0 c, cif_pos c]
    obtain ⟨j, rfl, hc⟩ := c
    obtain ⟨h1, h2, h3, h4, h5, h6, h7, h8⟩ := cellP_par hc
    have nb := numV_lt hW hc
    rw [nI_clamp h1.lt]
    unfold hdV
    cases col with
    | true =>
      rw [if_pos rfl, if_pos rfl, if_neg (by decide)]
      unfold fX0_columnHeaderOf fX0_columnHeaderOf_31
      rw [tF_of hg, tF_of hg, chk_pos h.1.1, bind_of (c_parentOf h _), rd_nI h1.1, h4, chk_pos h.1.1, bind_of (c_parentOf h _), rd_nI h2.1, h6, bind_of (c_columnOf hg h hW hn hc), bind_of (c_rowOf hg h hW hn hc)]
      have key : ∀ (m k : Nat), m ≤ 24 → m < k → iter k (fun s => fX0_columnHeaderOf_31b n Sh M γ (nI j) (nI (pr A (pr A j))) (nI (numV A K false j)) s) (nI m - 1) = some (dnF A (fun k => cellV A K (pr A (pr A j)) (nI k) (nI (numV A K false j))) m) := by
        intro m
        induction m with
        | zero =>
          intro k _ hk
          refine iter_end' hk ?_
          unfold fX0_columnHeaderOf_31b
          rw [if_pos (by decide)]
          rfl
        | succ m ih =>
          intro k hm hk
          rw [nI_sub1 (by omega), Nat.add_sub_cancel]
          have er : fX4_roleOf n Sh M t (cellV A K (pr A (pr A j)) (nI m) (nI (numV A K false j))) = some (rd A (cellV A K (pr A (pr A j)) (nI m) (nI (numV A K false j))) 0 (-1)) := c_roleOf h _
          by_cases c : rd A (cellV A K (pr A (pr A j)) (nI m) (nI (numV A K false j))) 0 (-1) = 10
          · refine iter_end' (by omega) ?_
            unfold fX0_columnHeaderOf_31b
            rw [if_neg (nI_pos (by omega)), bind_of (c_cellIn hg h hW hn h3 _ _), tF_of hg, chk_pos h.1.1, bind_of er, if_pos c]
            unfold dnF
            rw [if_pos c]
          · rw [iter_go' (s' := nI m - 1) (by omega)]
            · rw [ih (k - 1) (by omega) (by omega)]
              conv => rhs; unfold dnF
              rw [if_neg c]
            · unfold fX0_columnHeaderOf_31b
              rw [if_neg (nI_pos (by omega)), bind_of (c_cellIn hg h hW hn h3 _ _), tF_of hg, chk_pos h.1.1, bind_of er, if_neg c, Int32.sub_eq_add_neg]
      rw [key _ n nb.2 (by omega), bindS]
    | false =>
      show (if (0 : Int32) = 0 then _ else _) = some (oi _)
      rw [if_pos rfl]
      unfold fX0_rowHeaderOf fX0_rowHeaderOf_20
      rw [tF_of hg, chk_pos h.1.1, bind_of (c_parentOf h _), rd_nI h1.1, h4, tF_of hg, chk_pos h.1.1, bind_of (c_placeOf h hW hn h1)]
      obtain ⟨k1, k2, k3⟩ := rank_eq hW h1 h2 h4
      have hlen := kids_len hW h2
      obtain ⟨hr, he⟩ := List.getElem?_eq_some_iff.mp k2
      have key : ∀ (m k : Nat), m ≤ (K (pr A j)).length → m < k → iter k (fun s => fX0_rowHeaderOf_20b n Sh M γ (nI j) (nI (pr A j)) s) (nI m - 1) = some (oi (hl10 A ((K (pr A j)).take m)).getLast?) := by
        intro m
        induction m with
        | zero =>
          intro k _ hk
          refine iter_end' hk ?_
          unfold fX0_rowHeaderOf_20b
          rw [if_pos (by decide)]
          rfl
        | succ m ih =>
          intro k hm hk
          have hml : m < (K (pr A j)).length := by omega
          have hli := (hW.2.2.1 _ h2 (K (pr A j))[m] (List.getElem_mem hml)).1
          rw [nI_sub1 (by omega), Nat.add_sub_cancel, hl_s hml]
          have er : fX4_roleOf n Sh M t (nI (K (pr A j))[m]) = some (A (K (pr A j))[m] 0) := by rw [c_roleOf h _, rd_nI hli.1]
          by_cases c : A (K (pr A j))[m] 0 = 10
          · refine iter_end' (by omega) ?_
            unfold fX0_rowHeaderOf_20b
            rw [if_neg (nI_pos (by omega)), tF_of hg, chk_pos h.1.1, bind_of (c_kidAt h h2.1 _), kAt_nI (by omega), List.getElem?_eq_getElem hml, tF_of hg, chk_pos h.1.1, show oi (some (K (pr A j))[m]) = nI (K (pr A j))[m] from rfl, bind_of er, if_pos c, if_pos c, List.getLast?_concat]
            rfl
          · rw [iter_go' (s' := nI m - 1) (by omega)]
            · rw [ih (k - 1) (by omega) (by omega), if_neg c, List.append_nil]
            · unfold fX0_rowHeaderOf_20b
              rw [if_neg (nI_pos (by omega)), tF_of hg, chk_pos h.1.1, bind_of (c_kidAt h h2.1 _), kAt_nI (by omega), List.getElem?_eq_getElem hml, tF_of hg, chk_pos h.1.1, show oi (some (K (pr A j))[m]) = nI (K (pr A j))[m] from rfl, bind_of er, if_neg c, Int32.sub_eq_add_neg]
      rw [key _ n (by omega) (by omega), bindS]
  · rw [i0n c, cif_neg c]
theorem c_beside (hg : GR M γ t) (h : CT Sh M t A K W) (hW : WF A K) (hn : 24 < n) {v : Int32} (hv : orN A v) (d : Int32) : fX0_beside n Sh M γ v d = some (cif (∃ a, v = nI a ∧ isCellP A a) (bsV A K v.toNatClampNeg d) (-1)) := by
  unfold fX0_beside
  rw [bind_of (c_isCell hg h hW hv)]
  by_cases c : ∃ a, v = nI a ∧ isCellP A a
  · rw [i0 c, cif_pos c]
    obtain ⟨j, rfl, hc⟩ := c
    obtain ⟨h1, h2, h3, h4, h5, h6, h7, h8⟩ := cellP_par hc
    have nb := numV_lt hW hc
    rw [nI_clamp h1.lt, tF_of hg, tF_of hg, chk_pos h.1.1, bind_of (c_parentOf h _), rd_nI h1.1, h4, chk_pos h.1.1, bind_of (c_parentOf h _), rd_nI h2.1, h6, bind_of (c_rowOf hg h hW hn hc), bind_of (c_columnOf hg h hW hn hc)]
    have hrow : ∀ cc, cellV A K (pr A (pr A j)) (nI (numV A K true (pr A j))) cc = kAt (fl A false (K (pr A j))) cc := fun cc => by
      have e : kAt (fl A true (K (pr A (pr A j)))) (nI (numV A K true (pr A j))) = nI (pr A j) := by
        rw [kAt_nI (by omega)]
        unfold numV
        rw [fl_at (rank_eq hW h2 h3 h6).2.1 (show bel true (A (pr A j) 0) from h5)]
        rfl
      unfold cellV
      rw [e, if_neg (nI_ne_neg h2.lt), nI_clamp h2.lt]
    unfold bsV
    by_cases d0 : d = 0
    · rw [if_pos d0, if_pos d0, bind_of (c_cellIn hg h hW hn h3 _ _), hrow]
    · rw [if_neg d0, if_neg d0]
      by_cases d1 : d = 1
      · rw [if_pos d1, if_pos d1, bind_of (c_cellIn hg h hW hn h3 _ _), hrow]
      · rw [if_neg d1, if_neg d1]
        by_cases d2 : d = 2
        · rw [if_pos d2, if_pos d2, bind_of (c_cellIn hg h hW hn h3 _ _)]
        · rw [if_neg d2, if_neg d2, bind_of (c_cellIn hg h hW hn h3 _ _)]
  · rw [i0n c, cif_neg c]
end GRID
