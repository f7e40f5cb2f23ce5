/-! ===== LEVEL 2: what holds of a scene, and stays ===== -/
def SI (c : Nat) (A : At) (K : Kt) (W : Wt) (Q : List QI) (fo rd la : Int32) : Prop := WF A K ∧ WA A W ∧ WN A ∧ QOK A Q ∧ orN A fo ∧ orN A rd ∧ A 0 0 = 0 ∧ ∃ l, la = nI l ∧ l ≤ c
section ABS
variable {A A' : At} {K K' : Kt} {W W' : Wt} {Q Q' : List QI} {fo rd la v : Int32} {c : Nat} {a p q pos top : Nat} {r : Int32}
theorem SI.up (h : SI c A K W Q fo rd la) : SI (c + 1) A K W Q fo rd la := by
  obtain ⟨h1, h2, h3, h4, h5, h6, h7, l, h8, h9⟩ := h
  exact ⟨h1, h2, h3, h4, h5, h6, h7, l, h8, by omega⟩
theorem orN.mono (hl : ∀ i, live A i → live A' i) (h : orN A v) : orN A' v := h.imp id (fun ⟨p, h1, h2⟩ => ⟨p, hl p h1, h2⟩)
theorem isN.mono (hl : ∀ i, live A i → live A' i) (h : isN A v) : isN A' v := by
  obtain ⟨p, h1, h2⟩ := h
  exact ⟨p, hl p h1, h2⟩
theorem QOK.mono (hl : ∀ i, live A i → live A' i) (h : QOK A Q) : QOK A' Q := fun x hx => ⟨(h x hx).1, (h x hx).2.1.mono hl, (h x hx).2.2.mono hl⟩
theorem SI.queue (h : SI c A K W Q fo rd la) (hq : QOK A Q') : SI c A K W Q' fo rd la := ⟨h.1, h.2.1, h.2.2.1, hq, h.2.2.2.2⟩
theorem SI.foc (h : SI c A K W Q fo rd la) (hv : orN A v) : SI c A K W Q v rd la := ⟨h.1, h.2.1, h.2.2.1, h.2.2.2.1, hv, h.2.2.2.2.2⟩
theorem SI.rdl (h : SI c A K W Q fo rd la) (hv : orN A v) : SI c A K W Q fo v la := ⟨h.1, h.2.1, h.2.2.1, h.2.2.2.1, h.2.2.2.2.1, hv, h.2.2.2.2.2.2⟩
theorem live_sA {j k i : Nat} (hk : k ≠ 0) : live (sA A j k v) i ↔ live A i := live.cong (sA_k (fun z => hk z.symm))
/-- another setting -/
theorem SI.set (h : SI c A K W Q fo rd la) {j s : Nat} (hj : live A j) (hs : 5 ≤ s) (v : Int32) : SI c (sA A j s v) K W Q fo rd la := by
  obtain ⟨h1, h2, h3, h4, h5, h6, h7, h8⟩ := h
  have e : ∀ i k, k < 5 → sA A j s v i k = A i k := fun i k hk => sA_k (by omega)
  have hl : ∀ i, live (sA A j s v) i ↔ live A i := fun i => live_sA (by omega)
  refine ⟨h1.cong (fun i => e i 0 (by decide)) (fun i => e i 1 (by decide)), fun i hi => ?_, ⟨fun i hi => ?_, fun i hi hn => ?_⟩, h4.mono (fun i => (hl i).mpr), h5.mono (fun i => (hl i).mpr), h6.mono (fun i => (hl i).mpr), by rw [e 0 0 (by decide)]; exact h7, h8⟩
  · obtain ⟨x1, x2, x3, x4⟩ := h2 i ((hl i).mp hi)
    exact ⟨x1, x2, by rw [e i 2 (by decide)]; exact x3.mono (fun i => (hl i).mpr), by rw [e i 4 (by decide)]; exact x4.mono (fun i => (hl i).mpr)⟩
  · rw [e i 3 (by decide)]; exact h3.1 i ((hl i).mp hi)
  · rw [e i 3 (by decide)]; exact h3.2 i hi (fun z => hn ((hl i).mpr z))
/-- another labeller -/
theorem SI.by (h : SI c A K W Q fo rd la) {j : Nat} (hv : orN A v) : SI c (sA A j 2 v) K W Q fo rd la := by
  obtain ⟨h1, h2, h3, h4, h5, h6, h7, h8⟩ := h
  have e : ∀ i k, k ≠ 2 → sA A j 2 v i k = A i k := fun i k hk => sA_k hk
  have hl : ∀ i, live (sA A j 2 v) i ↔ live A i := fun i => live_sA (by decide)
  refine ⟨h1.cong (fun i => e i 0 (by decide)) (fun i => e i 1 (by decide)), fun i hi => ?_, ⟨fun i hi => ?_, fun i hi hn => ?_⟩, h4.mono (fun i => (hl i).mpr), h5.mono (fun i => (hl i).mpr), h6.mono (fun i => (hl i).mpr), by rw [e 0 0 (by decide)]; exact h7, h8⟩
  · obtain ⟨x1, x2, x3, x4⟩ := h2 i ((hl i).mp hi)
    refine ⟨x1, x2, ?_, by rw [e i 4 (by decide)]; exact x4.mono (fun i => (hl i).mpr)⟩
    by_cases c : i = j
    · subst c; rw [sA_s]; exact hv.mono (fun i => (hl i).mpr)
    · rw [sA_i c]; exact x3.mono (fun i => (hl i).mpr)
  · rw [e i 3 (by decide)]; exact h3.1 i ((hl i).mp hi)
  · rw [e i 3 (by decide)]; exact h3.2 i hi (fun z => hn ((hl i).mpr z))
/-- a dialog is closed -/
theorem SI.close (h : SI c A K W Q fo rd la) {j : Nat} : SI c (sA A j 3 0) K W Q fo rd la := by
  obtain ⟨h1, h2, h3, h4, h5, h6, h7, h8⟩ := h
  have e : ∀ i k, k ≠ 3 → sA A j 3 0 i k = A i k := fun i k hk => sA_k hk
  have hl : ∀ i, live (sA A j 3 0) i ↔ live A i := fun i => live_sA (by decide)
  refine ⟨h1.cong (fun i => e i 0 (by decide)) (fun i => e i 1 (by decide)), fun i hi => ?_, ⟨fun i hi => ?_, fun i hi hn => ?_⟩, h4.mono (fun i => (hl i).mpr), h5.mono (fun i => (hl i).mpr), h6.mono (fun i => (hl i).mpr), by rw [e 0 0 (by decide)]; exact h7, h8⟩
  · obtain ⟨x1, x2, x3, x4⟩ := h2 i ((hl i).mp hi)
    exact ⟨x1, x2, by rw [e i 2 (by decide)]; exact x3.mono (fun i => (hl i).mpr), by rw [e i 4 (by decide)]; exact x4.mono (fun i => (hl i).mpr)⟩
  · by_cases c : i = j
    · subst c; rw [sA_s]; decide
    · rw [sA_i c]; exact h3.1 i ((hl i).mp hi)
  · by_cases c : i = j
    · subst c; rw [sA_s]
    · rw [sA_i c]; exact h3.2 i hi (fun z => hn ((hl i).mpr z))
/-- a dialog is opened -/
theorem SI.opn (h : SI c A K W Q fo rd la) (hc : c < 1000) {j : Nat} (hj : live A j) (hv : orN A v) : SI (c + 1) (sA (sA A j 3 (la + 1)) j 4 v) K W Q fo rd (la + 1) := by
  obtain ⟨h1, h2, h3, h4, h5, h6, h7, l, h8, h9⟩ := h
  have e : ∀ i k, k ≠ 3 → k ≠ 4 → sA (sA A j 3 (la + 1)) j 4 v i k = A i k := fun i k hk hk2 => by rw [sA_k hk2, sA_k hk]
  have hl : ∀ i, live (sA (sA A j 3 (la + 1)) j 4 v) i ↔ live A i := fun i => live.cong (e i 0 (by decide) (by decide))
  refine ⟨h1.cong (fun i => e i 0 (by decide) (by decide)) (fun i => e i 1 (by decide) (by decide)), fun i hi => ?_, ⟨fun i hi => ?_, fun i hi hn => ?_⟩, h4.mono (fun i => (hl i).mpr), h5.mono (fun i => (hl i).mpr), h6.mono (fun i => (hl i).mpr), by rw [e 0 0 (by decide) (by decide)]; exact h7, l + 1, by rw [h8, nI_add1], by omega⟩
  · obtain ⟨x1, x2, x3, x4⟩ := h2 i ((hl i).mp hi)
    refine ⟨x1, x2, by rw [e i 2 (by decide) (by decide)]; exact x3.mono (fun i => (hl i).mpr), ?_⟩
    by_cases c : i = j
    · subst c; rw [sA_s]; exact hv.mono (fun i => (hl i).mpr)
    · rw [sA_i c, sA_i c]; exact x4.mono (fun i => (hl i).mpr)
  · rw [sA_k (by decide)]
    by_cases c : i = j
    · subst c; rw [sA_s, h8, nI_add1]; exact nI_pos (by omega)
    · rw [sA_i c]; exact h3.1 i ((hl i).mp hi)
  · rw [sA_k (by decide)]
    by_cases c : i = j
    · subst c; exact absurd ((hl i).mpr hj) hn
    · rw [sA_i c]; exact h3.2 i hi (fun z => hn ((hl i).mpr z))
/-- other words -/
theorem SI.words (h : SI c A K W Q fo rd la) {j k : Nat} {l : List Int32} (hl : l.length ≤ 8) : SI c A K (sW W j k l) Q fo rd la := by
  obtain ⟨h1, h2, h3⟩ := h
  refine ⟨h1, fun i hi => ?_, h3⟩
  obtain ⟨x1, x2, x3, x4⟩ := h2 i hi
  have w : ∀ s, (W i s).length ≤ 8 → (sW W j k l i s).length ≤ 8 := fun s hs => by
    unfold sW
    by_cases c : i = j ∧ s = k
    · rw [if_pos c]; exact hl
    · rw [if_neg c]; exact hs
  exact ⟨w 0 x1, w 1 x2, x3, x4⟩
-- a node more
theorem cr_live (ha : a < 24) (hr : r ≠ -1) (i : Nat) : live (sA (bgA A a r) a 1 v) i ↔ i = a ∨ live A i := by
  unfold live
  rw [sA_k (by decide)]
  unfold bgA
  by_cases c : i = a
  · subst c
    rw [if_pos rfl]
    exact ⟨fun _ => Or.inl rfl, fun _ => ⟨ha, hr⟩⟩
  · rw [if_neg c]
    exact ⟨Or.inr, fun z => z.resolve_left c⟩
theorem SI.create (h : SI c A K W Q fo rd la) (ha : a < 24) (hf : ¬ live A a) (hp : live A p) (hr : r ≠ -1) : SI c (sA (bgA A a r) a 1 (nI p)) (sK (sK K a []) p (ins (sK K a [] p) pos a)) (bgW W a) Q fo rd la := by
  obtain ⟨h1, h2, h3, h4, h5, h6, h7, h8⟩ := h
  have hl := cr_live (A := A) (v := nI p) ha hr
  have hpa : p ≠ a := fun z => hf (by rw [← z]; exact hp)
  have hla : ∀ i, live A i → i ≠ a := fun i hi z => hf (by rw [← z]; exact hi)
  have hm : ∀ i, live A i → live (sA (bgA A a r) a 1 (nI p)) i := fun i hi => (hl i).mpr (Or.inr hi)
  have e : ∀ i s, i ≠ a → sA (bgA A a r) a 1 (nI p) i s = A i s := fun i s hi => by rw [sA_i hi, bgA_i hi]
  have k1 : sK (sK K a []) p (ins (sK K a [] p) pos a) p = ins (K p) pos a := by rw [sK_s, sK_i hpa]
  have k2 : sK (sK K a []) p (ins (sK K a [] p) pos a) a = [] := by rw [sK_i (fun z => hpa z.symm), sK_s]
  have k3 : ∀ i, i ≠ a → i ≠ p → sK (sK K a []) p (ins (sK K a [] p) pos a) i = K i := fun i x y => by rw [sK_i y, sK_i x]
  have haK : ∀ i, live A i → a ∉ K i := fun i hi z => hf (h1.2.2.1 i hi a z).1
  obtain ⟨d, hd⟩ := h1.2.2.2.2
  refine ⟨⟨⟨hm 0 h1.1.1, by rw [e 0 1 (hla 0 h1.1.1)]; exact h1.1.2⟩, fun i hi h0 => ?_, fun i hi k hk => ?_, fun i hi => ?_, fun x => if x = a then d p + 1 else d x, fun i hi k hk => ?_⟩, fun i hi => ?_, ⟨fun i hi => ?_, fun i hi hn => ?_⟩, h4.mono hm, h5.mono hm, h6.mono hm, by rw [e 0 0 (hla 0 h1.1.1)]; exact h7, h8⟩
  · rcases (hl i).mp hi with z | z
    · subst z
      exact ⟨p, hm p hp, sA_s, by rw [k1]; exact ins_mem.mpr (Or.inl rfl)⟩
    · obtain ⟨q, hq, x1, x2⟩ := h1.2.1 i z h0
      refine ⟨q, hm q hq, by rw [e i 1 (hla i z)]; exact x1, ?_⟩
      by_cases y : q = p
      · subst y; rw [k1]; exact ins_mem.mpr (Or.inr x2)
      · rw [k3 q (hla q hq) y]; exact x2
  · rcases (hl i).mp hi with z | z
    · subst z; rw [k2] at hk; exact absurd hk List.not_mem_nil
    · by_cases y : i = p
      · subst y
        rw [k1] at hk
        rcases ins_mem.mp hk with w | w
        · subst w; exact ⟨(hl k).mpr (Or.inl rfl), sA_s⟩
        · obtain ⟨x1, x2⟩ := h1.2.2.1 i z k w
          exact ⟨hm k x1, by rw [e k 1 (hla k x1)]; exact x2⟩
      · rw [k3 i (hla i z) y] at hk
        obtain ⟨x1, x2⟩ := h1.2.2.1 i z k hk
        exact ⟨hm k x1, by rw [e k 1 (hla k x1)]; exact x2⟩
  · rcases (hl i).mp hi with z | z
    · subst z; rw [k2]; exact List.nodup_nil
    · by_cases y : i = p
      · subst y; rw [k1]; exact ins_nodup (h1.2.2.2.1 i z) (haK i z)
      · rw [k3 i (hla i z) y]; exact h1.2.2.2.1 i z
  · rcases (hl i).mp hi with z | z
    · subst z; rw [k2] at hk; exact absurd hk List.not_mem_nil
    · have hia := hla i z
      dsimp only
      rw [if_neg hia]
      by_cases y : i = p
      · subst y
        rw [k1] at hk
        rcases ins_mem.mp hk with w | w
        · rw [if_pos w]
        · rw [if_neg (hla k (h1.2.2.1 i z k w).1)]; exact hd i z k w
      · rw [k3 i hia y] at hk
        rw [if_neg (hla k (h1.2.2.1 i z k hk).1)]; exact hd i z k hk
  · rcases (hl i).mp hi with z | z
    · subst z
      rw [bgW_s, bgW_s, sA_k (by decide), sA_k (by decide), bgA_s, bgA_s]
      exact ⟨Nat.zero_le _, Nat.zero_le _, Or.inl rfl, Or.inl rfl⟩
    · have hia := hla i z
      obtain ⟨x1, x2, x3, x4⟩ := h2 i z
      rw [bgW_i hia, bgW_i hia, e i 2 hia, e i 4 hia]
      exact ⟨x1, x2, x3.mono hm, x4.mono hm⟩
  · rcases (hl i).mp hi with z | z
    · subst z; rw [sA_k (by decide), bgA_s]; exact (by decide : ¬ (0 : Int32) < 0)
    · rw [e i 3 (hla i z)]; exact h3.1 i z
  · have hia : i ≠ a := fun z => hn ((hl i).mpr (Or.inl z))
    rw [e i 3 hia]; exact h3.2 i hi (fun z => hn (hm i z))
theorem dp_in (h : WF A K) {x : Nat} (hx : live A x) (ha : a ∈ chain A (nI x)) : dp A a ≤ dp A x := by
  obtain ⟨l, e⟩ := chain_suffix h _ (Or.inr ⟨x, hx, rfl⟩) a ha
  unfold dp
  rw [e, List.length_append]
  omega
/-- a node moved -/
theorem SI.move (h : SI c A K W Q fo rd la) (ha : live A a) (ha0 : a ≠ 0) (hq : live A q) (eq : A a 1 = nI q) (hp : live A p) (hpa : p ≠ a) (hb : a ∉ chain A (A p 1)) : SI c (sA (sA A a 1 (-1)) a 1 (nI p)) (sK (sK K q ((K q).eraseIdx ((K q).idxOf a))) p (ins (sK K q ((K q).eraseIdx ((K q).idxOf a)) p) pos a)) W Q fo rd la := by
  obtain ⟨h1, h2, h3, h4, h5, h6, h7, h8⟩ := h
  have hl : ∀ i, live (sA (sA A a 1 (-1)) a 1 (nI p)) i ↔ live A i := fun i => live.cong (by rw [sA_k (by decide), sA_k (by decide)])
  have hm : ∀ i, live A i → live (sA (sA A a 1 (-1)) a 1 (nI p)) i := fun i hi => (hl i).mpr hi
  have e : ∀ i s, (i ≠ a ∨ s ≠ 1) → sA (sA A a 1 (-1)) a 1 (nI p) i s = A i s := fun i s hi => by
    rcases hi with hi | hi
    · rw [sA_i hi, sA_i hi]
    · rw [sA_k hi, sA_k hi]
  have haq : a ∈ K q := (h1.kid ha hq.1 eq).2
  have nq := h1.2.2.2.1 q hq
  have dm : ∀ i x, live A i → (x ∈ sK K q ((K q).eraseIdx ((K q).idxOf a)) i ↔ x ≠ a ∧ x ∈ K i) := fun i x hi => by
    by_cases z : i = q
    · subst z; rw [sK_s]; exact del_mem nq haq
    · rw [sK_i z]
      exact ⟨fun y => ⟨fun w => z (by subst w; exact nI_inj hi.lt hq.lt ((h1.2.2.1 i hi x y).2.symm.trans eq)), y⟩, fun y => y.2⟩
  have dn : ∀ i, live A i → (sK K q ((K q).eraseIdx ((K q).idxOf a)) i).Nodup := fun i hi => by
    by_cases z : i = q
    · subst z; rw [sK_s]; exact del_nodup nq
    · rw [sK_i z]; exact h1.2.2.2.1 i hi
  generalize sK K q ((K q).eraseIdx ((K q).idxOf a)) = Kd at *
  have km : ∀ i x, live A i → (x ∈ sK Kd p (ins (Kd p) pos a) i ↔ (x = a ∧ i = p) ∨ (x ≠ a ∧ x ∈ K i)) := fun i x hi => by
    by_cases z : i = p
    · subst z
      rw [sK_s, ins_mem, dm i x hi]
      exact ⟨fun y => y.imp (fun w => ⟨w, rfl⟩) id, fun y => y.imp (fun w => w.1) id⟩
    · rw [sK_i z, dm i x hi]
      exact ⟨Or.inr, fun y => y.resolve_left (fun w => z w.2)⟩
  have hcp : a ∉ chain A (nI p) := fun z => by
    rw [chain_cons h1 hp] at z
    rcases List.mem_cons.mp z with z | z
    · exact hpa z.symm
    · exact hb z
  refine ⟨⟨⟨hm 0 h1.1.1, by rw [e 0 1 (Or.inl (fun z => ha0 z.symm))]; exact h1.1.2⟩, fun i hi h0 => ?_, fun i hi k hk => ?_, fun i hi => ?_, fun x => cif (a ∈ chain A (nI x)) (dp A x + dp A p + 1 - dp A a) (dp A x), fun i hi k hk => ?_⟩, fun i hi => ?_, ⟨fun i hi => ?_, fun i hi hn => ?_⟩, h4.mono hm, h5.mono hm, h6.mono hm, by rw [e 0 0 (Or.inr (by decide))]; exact h7, h8⟩
  · have z := (hl i).mp hi
    by_cases y : i = a
    · subst y; exact ⟨p, hm p hp, sA_s, (km p i hp).mpr (Or.inl ⟨rfl, rfl⟩)⟩
    · obtain ⟨u, hu, x1, x2⟩ := h1.2.1 i z h0
      exact ⟨u, hm u hu, by rw [e i 1 (Or.inl y)]; exact x1, (km u i hu).mpr (Or.inr ⟨y, x2⟩)⟩
  · have z := (hl i).mp hi
    rcases (km i k z).mp hk with ⟨y1, y2⟩ | ⟨y1, y2⟩
    · subst y1; subst y2; exact ⟨hm k ha, sA_s⟩
    · obtain ⟨x1, x2⟩ := h1.2.2.1 i z k y2
      exact ⟨hm k x1, by rw [e k 1 (Or.inl y1)]; exact x2⟩
  · have z := (hl i).mp hi
    by_cases y : i = p
    · subst y; rw [sK_s]; exact ins_nodup (dn i z) (fun w => ((dm i a z).mp w).1 rfl)
    · rw [sK_i y]; exact dn i z
  · have z := (hl i).mp hi
    dsimp only
    rcases (km i k z).mp hk with ⟨y1, y2⟩ | ⟨y1, y2⟩
    · subst y1; subst y2
      have : k ∈ chain A (nI k) := by rw [chain_cons h1 ha]; exact List.mem_cons_self
      rw [cif_pos this, cif_neg hcp]
      omega
    · have hk := dp_kid h1 z y2
      obtain ⟨x1, x2⟩ := h1.2.2.1 i z k y2
      have hch : a ∈ chain A (nI k) ↔ a ∈ chain A (nI i) := by
        rw [chain_cons h1 x1, x2, List.mem_cons]
        exact ⟨fun w => w.resolve_left (fun u => y1 u.symm), Or.inr⟩
      by_cases w : a ∈ chain A (nI i)
      · have := dp_in h1 z w
        rw [cif_pos w, cif_pos (hch.mpr w)]
        omega
      · rw [cif_neg w, cif_neg (fun u => w (hch.mp u))]
        exact hk
  · obtain ⟨x1, x2, x3, x4⟩ := h2 i ((hl i).mp hi)
    rw [e i 2 (Or.inr (by decide)), e i 4 (Or.inr (by decide))]
    exact ⟨x1, x2, x3.mono hm, x4.mono hm⟩
  · rw [e i 3 (Or.inr (by decide))]; exact h3.1 i ((hl i).mp hi)
  · rw [e i 3 (Or.inr (by decide))]; exact h3.2 i hi (fun z => hn (hm i z))
/-- what goes when a node is removed -/
def gnP (A : At) (top : Nat) : Nat → Prop := fun j => live A j ∧ (j = top ∨ top ∈ chain A (A j 1))
theorem gn_chain (h : WF A K) {j : Nat} : gnP A top j ↔ live A j ∧ top ∈ chain A (nI j) := by
  unfold gnP
  constructor
  · rintro ⟨hl, z⟩
    rw [chain_cons h hl, List.mem_cons]
    exact ⟨hl, z.imp (fun y => y.symm) id⟩
  · rintro ⟨hl, z⟩
    rw [chain_cons h hl, List.mem_cons] at z
    exact ⟨hl, z.imp (fun y => y.symm) id⟩
theorem gn_par (h : WF A K) {j i : Nat} (hj : live A j) (hi : live A i) (e : A j 1 = nI i) : gnP A top j ↔ j = top ∨ gnP A top i := by
  rw [gn_chain h, gn_chain h, chain_cons h hj, e, List.mem_cons]
  exact ⟨fun z => z.2.imp (fun y => y.symm) (fun y => ⟨hi, y⟩), fun z => ⟨hj, z.imp (fun y => y.symm) (fun y => y.2)⟩⟩
theorem gn_top (h : WF A K) (ht : live A top) (hp : live A p) (e : A top 1 = nI p) : gnP A top top ∧ ¬ gnP A top p := by
  refine ⟨⟨ht, Or.inl rfl⟩, fun z => ?_⟩
  have z := ((gn_chain h).mp z).2
  have hn := chain_nodup h (Or.inr ⟨top, ht, rfl⟩)
  rw [chain_cons h ht, e] at hn
  exact (List.nodup_cons.mp hn).1 z
theorem gn_up (h : WF A K) {j : Nat} (hg : gnP A top j) (hj : j ≠ top) : ∃ q, q < 24 ∧ A j 1 = nI q ∧ gnP A top q := by
  rcases h.par hg.1 with e | ⟨q, hq, e⟩
  · rcases hg.2 with z | z
    · exact absurd z hj
    · rw [e, chain_neg (by decide)] at z; exact absurd z List.not_mem_nil
  · exact ⟨q, hq.1, e, ((gn_par h hg.1 hq e).mp hg).resolve_left hj⟩
theorem rem_live {G : Nat → Prop} (i : Nat) : live (remA A G) i ↔ live A i ∧ ¬ G i := by
  unfold live remA
  by_cases g : G i
  · rw [cif_pos g]
    exact ⟨fun z => absurd rfl z.2, fun z => absurd g z.2⟩
  · rw [cif_neg g, cif_neg (fun z => by rcases z.1 with z | z <;> exact absurd z (by decide))]
    exact ⟨fun z => ⟨z, g⟩, fun z => z.1⟩
theorem rem_A {G : Nat → Prop} {i s : Nat} (g : ¬ G i) (h2 : s ≠ 2) (h4 : s ≠ 4) : remA A G i s = A i s := by
  unfold remA
  rw [cif_neg g, cif_neg (fun z => z.1.elim h2 h4)]
theorem rem_or {G : Nat → Prop} (h : orN A v) : orN (remA A G) (fgV G v) := by
  unfold fgV
  by_cases g : inM G v
  · rw [cif_pos g]; exact Or.inl rfl
  · rw [cif_neg g]
    refine h.imp id (fun ⟨i, hi, e⟩ => ⟨i, (rem_live i).mpr ⟨hi, fun z => g ⟨i, hi.1, e, z⟩⟩, e⟩)
theorem rem_24 {G : Nat → Prop} {i s : Nat} (g : ¬ G i) (hs : s = 2 ∨ s = 4) : remA A G i s = fgV G (A i s) := by
  unfold remA fgV
  rw [cif_neg g]
  by_cases z : inM G (A i s)
  · rw [cif_pos ⟨hs, z⟩, cif_pos z]
  · rw [cif_neg (fun y => z y.2), cif_neg z]
theorem SI.remove (h : SI c A K W Q fo rd la) (ht : live A top) (ht0 : top ≠ 0) (hp : live A p) (e : A top 1 = nI p) : SI c (remA A (gnP A top)) (remK K (gnP A top) p top) (remW W (gnP A top)) (qFil (fun x => inM (gnP A top) x.2.1 ∨ inM (gnP A top) x.2.2.1) Q) (fgV (gnP A top) fo) (fgV (gnP A top) rd) la := by
  obtain ⟨h1, h2, h3, h4, h5, h6, h7, h8⟩ := h
  have hu := fun {j i : Nat} => gn_par (top := top) h1 (j := j) (i := i)
  have hg0 : ¬ gnP A top 0 := fun z => by
    rcases z.2 with y | y
    · exact ht0 y.symm
    · rw [h1.1.2, chain_neg (by decide)] at y; exact absurd y List.not_mem_nil
  obtain ⟨gt, gp⟩ := gn_top h1 ht hp e
  have hk := (h1.kid ht hp.1 e).2
  have np := h1.2.2.2.1 p hp
  generalize gnP A top = G at *
  have km : ∀ i x, live A i → ¬ G i → (x ∈ remK K G p top i ↔ x ≠ top ∧ x ∈ K i) := fun i x hi g => by
    unfold remK
    rw [cif_neg g]
    by_cases z : i = p
    · subst z; rw [if_pos rfl]; exact del_mem np hk
    · rw [if_neg z]
      exact ⟨fun y => ⟨fun w => z (by subst w; exact nI_inj hi.lt hp.lt ((h1.2.2.1 i hi x y).2.symm.trans e)), y⟩, fun y => y.2⟩
  obtain ⟨d, hd⟩ := h1.2.2.2.2
  have kl : ∀ i x, live A i → ¬ G i → x ∈ remK K G p top i → live A x ∧ A x 1 = nI i ∧ ¬ G x ∧ x ∈ K i := fun i x hi g hx => by
    obtain ⟨y1, y2⟩ := (km i x hi g).mp hx
    obtain ⟨x1, x2⟩ := h1.2.2.1 i hi x y2
    exact ⟨x1, x2, fun z => ((hu x1 hi x2).mp z).elim y1 g, y2⟩
  refine ⟨⟨⟨(rem_live 0).mpr ⟨h1.1.1, hg0⟩, by rw [rem_A hg0 (by decide) (by decide)]; exact h1.1.2⟩, fun i hi h0 => ?_, fun i hi k hk => ?_, fun i hi => ?_, d, fun i hi k hk => ?_⟩, fun i hi => ?_, ⟨fun i hi => ?_, fun i hi hn => ?_⟩, fun x hx => ?_, rem_or h5, rem_or h6, by rw [rem_A hg0 (by decide) (by decide)]; exact h7, h8⟩
  · obtain ⟨z, g⟩ := (rem_live i).mp hi
    obtain ⟨u, hu', x1, x2⟩ := h1.2.1 i z h0
    have gu : ¬ G u := fun y => g ((hu z hu' x1).mpr (Or.inr y))
    exact ⟨u, (rem_live u).mpr ⟨hu', gu⟩, by rw [rem_A g (by decide) (by decide)]; exact x1, (km u i hu' gu).mpr ⟨fun y => g (by rw [y]; exact gt), x2⟩⟩
  · obtain ⟨z, g⟩ := (rem_live i).mp hi
    obtain ⟨x1, x2, x3, -⟩ := kl i k z g hk
    exact ⟨(rem_live k).mpr ⟨x1, x3⟩, by rw [rem_A x3 (by decide) (by decide)]; exact x2⟩
  · obtain ⟨z, g⟩ := (rem_live i).mp hi
    unfold remK
    rw [cif_neg g]
    by_cases y : i = p
    · rw [if_pos y]; exact del_nodup np
    · rw [if_neg y]; exact h1.2.2.2.1 i z
  · obtain ⟨z, g⟩ := (rem_live i).mp hi
    exact hd i z k (kl i k z g hk).2.2.2
  · obtain ⟨z, g⟩ := (rem_live i).mp hi
    obtain ⟨x1, x2, x3, x4⟩ := h2 i z
    rw [rem_24 g (Or.inl rfl), rem_24 g (Or.inr rfl)]
    unfold remW
    rw [cif_neg g, cif_neg g]
    exact ⟨x1, x2, rem_or x3, rem_or x4⟩
  · obtain ⟨z, g⟩ := (rem_live i).mp hi
    rw [rem_A g (by decide) (by decide)]
    exact h3.1 i z
  · by_cases g : G i
    · unfold remA; rw [cif_pos g]; rfl
    · rw [rem_A g (by decide) (by decide)]
      exact h3.2 i hi (fun z => hn ((rem_live i).mpr ⟨z, g⟩))
  · obtain ⟨y1, y2⟩ := List.mem_filter.mp hx
    have y2 := cB_iff.mp y2
    obtain ⟨z1, z2, z3⟩ := h4 x y1
    refine ⟨z1, ?_, ?_⟩
    · obtain ⟨i, hi, ei⟩ := z2
      exact ⟨i, (rem_live i).mpr ⟨hi, fun g => y2 (Or.inl ⟨i, hi.1, ei, g⟩)⟩, ei⟩
    · refine z3.imp id (fun ⟨i, hi, ei⟩ => ⟨i, (rem_live i).mpr ⟨hi, fun g => y2 (Or.inr ⟨i, hi.1, ei, g⟩)⟩, ei⟩)
end ABS
