/-! ===== CORE: a memory by rows of numbers, and the machine's rows over it ===== -/
abbrev Mm : Type := (Nat → Nat → Int32) × (Nat → Nat → Option Nat) × (Nat → Nat → Int64)
/-- the shape: what stands at an address: an object of a class of vwCl, or an array (its kind, its length) -/
abbrev Sp : Type := Nat → Option (Nat ⊕ (Nat × Nat))
/-- the base address; the classes' numbers and slots; the array classes; the texts' objects and their bytes -/
abbrev Gt : Type := Nat × va_G × (Nat → ClassId) × (Nat → Nat) × (Nat → Nat)
def GW : List Cond := lw_tbl.filter goodWord
theorem gw_of (i : Nat) {w : Cond} (h : lw_tbl[i]? = some w) (g : goodWord w = true) : w ∈ GW := List.mem_filter.mpr ⟨List.mem_of_getElem? h, g⟩
def nwWord : Cond → Bool
  | .castable .. => true
  | .declares .. => true
  | .fieldLinkNest .. => true
  | .methodLinkNest .. => true
  | _ => false
/-- the words that a callee isn't handed: they go with the world -/
def NW : List Cond := lw_tbl.filter nwWord
theorem nw_of (i : Nat) {w : Cond} (h : lw_tbl[i]? = some w) (g : nwWord w = true) : w ∈ NW := List.mem_filter.mpr ⟨List.mem_of_getElem? h, g⟩
theorem nw_warm {w : Cond} (hw : nwWord w = true) {s U : State} (hW : s.WarmedH U.vm) (h : va_Nw w s) : va_Nw w U := by
  cases w
  case castable => exact va_Nw.warmC hW h
  case declares => exact va_Nw.warmD hW h
  case fieldLinkNest => exact va_Nw.warmF hW h
  case methodLinkNest => exact va_Nw.warmM hW h
  all_goals exact absurd hw (by simp [nwWord])
theorem nw_tab {w : Cond} (hw : nwWord w = true) : w.onTables = true := by
  cases w
  case castable => rfl
  case declares => rfl
  case fieldLinkNest => rfl
  case methodLinkNest => rfl
  all_goals exact absurd hw (by simp [nwWord])
theorem gw_good {w : Cond} (h : w ∈ GW) : goodWord w = true := (List.mem_filter.mp h).2
theorem gw_in {ws : List Cond} (h : ∀ w ∈ ws, w ∈ GW) : GoodIn GW ws := fun w hw => ⟨h w hw, good_of_word (gw_good (h w hw))⟩
def aTy : Nat → FieldType
  | 0 => .int
  | 1 => .char
  | 2 => .long
  | 3 => .boolean
  | 4 => .object "SpokenTree$Words"
  | _ => .object "SpokenTree$Scene"
def aKd : Nat → Nat
  | 2 => 2
  | 4 => 1
  | 5 => 1
  | _ => 0
/-- a slot's value by its kind: 0 an int, 1 a reference, 2 a long -/
def vK (M : Mm) (kind a k : Nat) : Value := match kind with
  | 0 => .int (M.1 a k)
  | 1 => va_rf (M.2.1 a k)
  | _ => .long (M.2.2 a k)
def HA (G : Gt) (M : Mm) (a : Nat) (x : Nat ⊕ (Nat × Nat)) (H : Heap) : Prop := match x with
  | .inl ci => ∃ r : vw_C, vwCl[ci]? = some r ∧ t_OB a (G.2.1.1 ci) r.2.2 (G.2.1.2 ci) H (fun k => vK M (kd ci k) a k)
  | .inr q => H[a]? = some (arrV (G.2.2.1 q.1) q.2 (fun j => vK M (aKd q.1) a j)) ∧ q.1 < 6 ∧ (q.1 = 1 → ∀ j, fits .char (.int (M.1 a j)) = true)
def HM (G : Gt) (Sh : Sp) (M : Mm) (H : Heap) : Prop := ∀ a x, Sh a = some x → G.1 ≤ a ∧ HA G M a x H
def AA (G : Gt) : Nat → Prop := fun q => G.1 ≤ q
def tysL (G : Gt) : List (ClassId × FieldType) := [(G.2.2.1 0, .int), (G.2.2.1 1, .char), (G.2.2.1 2, .long), (G.2.2.1 3, .boolean), (G.2.2.1 4, .object "SpokenTree$Words"), (G.2.2.1 5, .object "SpokenTree$Scene")]
def KK (G : Gt) (U : State) : Prop := va_K G.2.1 vwCl (tysL G) U
theorem KK.arr {G : Gt} {U : State} (h : KK G U) {ti : Nat} (ht : ti < 6) : ArrOfT U (G.2.2.1 ti) (aTy ti) ∧ va_RA U (G.2.2.1 ti) (aTy ti) := by
  match ti, ht with
  | 0, _ => exact h.2 0 _ rfl
  | 1, _ => exact h.2 1 _ rfl
  | 2, _ => exact h.2 2 _ rfl
  | 3, _ => exact h.2 3 _ rfl
  | 4, _ => exact h.2 4 _ rfl
  | 5, _ => exact h.2 5 _ rfl
theorem HA.kept {G : Gt} {M M' : Mm} {a : Nat} {x : Nat ⊕ (Nat × Nat)} {H H1 : Heap} (h : HA G M a x H) (hq : H1[a]? = H[a]?) (e1 : M'.1 a = M.1 a) (e2 : M'.2.1 a = M.2.1 a) (e3 : M'.2.2 a = M.2.2 a) : HA G M' a x H1 := by
  have ev : ∀ kind k, vK M' kind a k = vK M kind a k := fun kind k => by unfold vK; rw [e1, e2, e3]
  cases x with
  | inl ci =>
    obtain ⟨r, h1, h2⟩ := h
    exact ⟨r, h1, (h2.kept hq).to (fun k _ => (ev _ k).symm)⟩
  | inr q =>
    obtain ⟨h1, h2, h3⟩ := h
    refine ⟨?_, h2, fun hz j => by rw [e1]; exact h3 hz j⟩
    rw [hq, h1]
    congr 2
    funext j
    exact (ev _ j).symm
theorem HA.lt {G : Gt} {M : Mm} {a : Nat} {x : Nat ⊕ (Nat × Nat)} {H : Heap} (h : HA G M a x H) : a < H.size := by
  cases x with
  | inl ci =>
    obtain ⟨r, h1, cell, h2, -⟩ := h
    exact (Array.getElem?_eq_some_iff.mp h2).1
  | inr q => exact (Array.getElem?_eq_some_iff.mp h.1).1
theorem HM.set {G : Gt} {Sh : Sp} {M M' : Mm} {H H1 : Heap} {a : Nat} {x : Nat ⊕ (Nat × Nat)} (h : HM G Sh M H) (hx : Sh a = some x) (he : HA G M' a x H1) (oq : ∀ q : Nat, q ≠ a → H1[q]? = H[q]?) (e1 : ∀ b, b ≠ a → M'.1 b = M.1 b) (e2 : ∀ b, b ≠ a → M'.2.1 b = M.2.1 b) (e3 : ∀ b, b ≠ a → M'.2.2 b = M.2.2 b) : HM G Sh M' H1 := by
  intro b y hb
  by_cases hba : b = a
  · subst hba
    cases hx.symm.trans hb
    exact ⟨(h b x hx).1, he⟩
  · exact ⟨(h b y hb).1, (h b y hb).2.kept (oq b hba) (e1 b hba) (e2 b hba) (e3 b hba)⟩
theorem HM.off {G : Gt} {Sh : Sp} {M : Mm} {H H1 : Heap} (h : HM G Sh M H) (hq : ∀ a, a < H.size → H1[a]? = H[a]?) : HM G Sh M H1 := fun a x hx => ⟨(h a x hx).1, (h a x hx).2.kept (hq a (h a x hx).2.lt) rfl rfl rfl⟩
-- memory written
def wI (M : Mm) (a : Nat) (f : Nat → Int32) : Mm := (fun b => if b = a then f else M.1 b, M.2)
def uI (M : Mm) (a k : Nat) (v : Int32) : Mm := wI M a (upd (M.1 a) k v)
def uR (M : Mm) (a k : Nat) (v : Option Nat) : Mm := (M.1, fun b => if b = a then va_up (M.2.1 a) k v else M.2.1 b, M.2.2)
def uL (M : Mm) (a k : Nat) (v : Int64) : Mm := (M.1, M.2.1, fun b => if b = a then vp_updL (M.2.2 a) k v else M.2.2 b)
-- the pure side
noncomputable def chk {ρ : Type} (P : Prop) (x : Option ρ) : Option ρ := @ite _ P (Classical.propDecidable P) x none
theorem chk_some {ρ : Type} {P : Prop} {x : Option ρ} {r : ρ} (h : chk P x = some r) : P ∧ x = some r := by
  unfold chk at h
  by_cases hP : P
  · rw [if_pos hP] at h; exact ⟨hP, h⟩
  · rw [if_neg hP] at h; cases h
theorem chk_pos {ρ : Type} {P : Prop} {x : Option ρ} (hP : P) : chk P x = x := if_pos hP
def okA (Sh : Sp) (a ti : Nat) (i : Int32) : Prop := ∃ N, Sh a = some (.inr (ti, N)) ∧ vp_in i N
/-- a reference that is no null -/
def gR {ρ : Type} (x : Option Nat) (K : Nat → Option ρ) : Option ρ := match x with
  | some b => K b
  | none => none
noncomputable def gI {ρ : Type} (Sh : Sp) (M : Mm) (a ci k : Nat) (K : Int32 → Option ρ) : Option ρ := chk (Sh a = some (.inl ci)) (K (M.1 a k))
noncomputable def gF {ρ : Type} (Sh : Sp) (M : Mm) (a ci k : Nat) (K : Nat → Option ρ) : Option ρ := chk (Sh a = some (.inl ci)) (gR (M.2.1 a k) K)
noncomputable def aI {ρ : Type} (Sh : Sp) (M : Mm) (a ti : Nat) (i : Int32) (K : Int32 → Option ρ) : Option ρ := chk (okA Sh a ti i) (K (M.1 a i.toNatClampNeg))
noncomputable def aL {ρ : Type} (Sh : Sp) (M : Mm) (a : Nat) (i : Int32) (K : Int64 → Option ρ) : Option ρ := chk (okA Sh a 2 i) (K (M.2.2 a i.toNatClampNeg))
noncomputable def aR {ρ : Type} (Sh : Sp) (M : Mm) (a ti : Nat) (i : Int32) (K : Nat → Option ρ) : Option ρ := chk (okA Sh a ti i) (gR (M.2.1 a i.toNatClampNeg) K)
noncomputable def pI {ρ : Type} (Sh : Sp) (M : Mm) (a ci k : Nat) (v : Int32) (K : Mm → Option ρ) : Option ρ := chk (Sh a = some (.inl ci)) (K (uI M a k v))
noncomputable def sI {ρ : Type} (Sh : Sp) (M : Mm) (a : Nat) (i v : Int32) (K : Mm → Option ρ) : Option ρ := chk (okA Sh a 0 i) (K (uI M a i.toNatClampNeg v))
noncomputable def sC {ρ : Type} (Sh : Sp) (M : Mm) (a : Nat) (i v : Int32) (K : Mm → Option ρ) : Option ρ := chk (okA Sh a 1 i) (K (uI M a i.toNatClampNeg (vp_nar .char v)))
noncomputable def sZ {ρ : Type} (Sh : Sp) (M : Mm) (a : Nat) (i v : Int32) (K : Mm → Option ρ) : Option ρ := chk (okA Sh a 3 i) (K (uI M a i.toNatClampNeg (vp_nar .boolean v)))
noncomputable def sL {ρ : Type} (Sh : Sp) (M : Mm) (a : Nat) (i : Int32) (v : Int64) (K : Mm → Option ρ) : Option ρ := chk (okA Sh a 2 i) (K (uL M a i.toNatClampNeg v))
noncomputable def sR {ρ : Type} (Sh : Sp) (M : Mm) (a ti ci : Nat) (i : Int32) (b : Nat) (K : Mm → Option ρ) : Option ρ := chk (okA Sh a ti i ∧ Sh b = some (.inl ci)) (K (uR M a i.toNatClampNeg (some b)))
def aN {ρ : Type} (Sh : Sp) (a : Nat) (K : Int32 → Option ρ) : Option ρ := match Sh a with
  | some (.inr q) => K (Int32.ofNat q.2)
  | _ => none
def okC (Sh : Sp) (ti a0 a1 : Nat) (sp dp n : Int32) : Prop := ∃ n0 n1, Sh a0 = some (.inr (ti, n0)) ∧ Sh a1 = some (.inr (ti, n1)) ∧ ¬ sp < 0 ∧ ¬ dp < 0 ∧ ¬ n < 0 ∧ sp.toNatClampNeg + n.toNatClampNeg ≤ n0 ∧ dp.toNatClampNeg + n.toNatClampNeg ≤ n1
noncomputable def aC {ρ : Type} (Sh : Sp) (M : Mm) (ti a0 : Nat) (sp : Int32) (a1 : Nat) (dp n : Int32) (K : Mm → Option ρ) : Option ρ := chk (okC Sh ti a0 a1 sp dp n) (K (wI M a1 (va_cpy (M.1 a0) (M.1 a1) sp.toNatClampNeg dp.toNatClampNeg n.toNatClampNeg)))
def iter {σ ρ : Type} : Nat → (σ → Option (σ ⊕ ρ)) → σ → Option ρ
  | 0, _, _ => none
  | n + 1, f, s => match f s with
    | none => none
    | some (.inl s') => iter n f s'
    | some (.inr r) => some r
def itK {σ ρ : Type} (n : Nat) (f : σ → Option (σ ⊕ ρ)) (z : σ ⊕ ρ) : Option ρ := match z with
  | .inl s' => iter n f s'
  | .inr r => some r
theorem iter_some {σ ρ : Type} {n : Nat} {f : σ → Option (σ ⊕ ρ)} {s : σ} {r : ρ} (h : iter (n + 1) f s = some r) : ∃ z, f s = some z ∧ itK n f z = some r := by
  unfold iter at h
  match hf : f s with
  | none => rw [hf] at h; cases h
  | some (.inl s') => rw [hf] at h; exact ⟨_, rfl, h⟩
  | some (.inr r') => rw [hf] at h; exact ⟨_, rfl, h⟩
theorem iter_0 {σ ρ : Type} {f : σ → Option (σ ⊕ ρ)} {s : σ} {r : ρ} (h : iter 0 f s = some r) : False := by cases h
theorem bS {α ρ : Type} {x : Option α} {K : α → Option ρ} {r : ρ} (h : x.bind K = some r) : ∃ v, x = some v ∧ K v = some r := by
  cases x with
  | none => cases h
  | some v => exact ⟨v, rfl, h⟩
theorem mS {α ρ : Type} {x : Option α} {g : α → ρ} {r : ρ} (h : x.map g = some r) : ∃ v, x = some v ∧ g v = r := by
  cases x with
  | none => cases h
  | some v => exact ⟨v, rfl, Option.some.inj h⟩
theorem gR_some {ρ : Type} {x : Option Nat} {K : Nat → Option ρ} {r : ρ} (h : gR x K = some r) : ∃ b, x = some b ∧ K b = some r := by
  cases x with
  | none => cases h
  | some v => exact ⟨v, rfl, h⟩
theorem aN_some {ρ : Type} {Sh : Sp} {a : Nat} {K : Int32 → Option ρ} {r : ρ} (h : aN Sh a K = some r) : ∃ q, Sh a = some (.inr q) ∧ K (Int32.ofNat q.2) = some r := by
  unfold aN at h
  match hx : Sh a with
  | none => rw [hx] at h; cases h
  | some (.inl ci) => rw [hx] at h; cases h
  | some (.inr q) => rw [hx] at h; exact ⟨q, rfl, h⟩
/-- what the tables say of a class -/
def CLS (ci : Nat) (C : String) (T : u_T) (N : Nat) : Prop := vwCl[ci]? = some (C, T, N) ∧ (∀ w ∈ u_ws C T N, w ∈ GW) ∧ (∀ a, a < N → ∀ b, b < N → a ≠ b → (T a).2.1 ≠ (T b).2.1) ∧ ∃ ty0 : Nat → FieldType, ∀ k, k < N → parseFieldDescriptor (T k).2.2.1 = some (ty0 k)
/-- what a method's call needs of the tables -/
def MOK (y : MethodName) (bytes : ByteArray) (mL : Nat) (ret : Option FieldType) (n : Nat) : Prop := Cond.code y bytes mL ret ∈ GW ∧ Cond.initialized y.cls ∈ GW ∧ y.cls ≠ "java/lang/invoke/MethodHandle" ∧ y.cls ≠ "java/lang/invoke/VarHandle" ∧ (parseMethodDescriptor y.desc).map (fun d => d.parameters.length) = some n
/-- the heap beside the entry's: what isn't ours stays, its size is nx -/
def SS (G : Gt) (s : State) (nx : Nat) (H : Heap) (locs : List Loc) : Prop := va_S (AA G) s.heap H locs ∧ H.size = nx
theorem SS.put {G : Gt} {s : State} {nx : Nat} {H H1 : Heap} {locs : List Loc} {a k : Nat} (h : SS G s nx H locs) (z : H1.size = H.size) (oq : ∀ q : Nat, q ≠ a → H1[q]? = H[q]?) (ha : AA G a) : SS G s nx H1 (locs ++ [⟨a, k⟩]) := ⟨h.1.put z oq ha, z.trans h.2⟩
section CORE
variable {p : Program} {l : Launch} {e : Env} {R : Room} {s : State} {m : MethodId} {args : Array Value} {below : List Frame} {meth : Method} {c : Code} {H : Heap} {locs : List Loc} {cells slots : Nat} {Q : State → Prop}
variable {cc : ByteArray} {nL pc nx : Nat} {ls : Array Slot} {rest : List Value} {own : String} {G : Gt} {Sh : Sp} {M : Mm} {a : Nat} {ρ : Type} {r0 : ρ}
theorem r_get (C : CallFix p m c cc nL s args GW own) (hK : KK G s) (hP : HM G Sh M H) {ci k idx N : Nat} {Cn : String} {T : u_T} (hc : CLS ci Cn T N) (hk : k < N) (hlink : Cond.fieldLink own idx (T k).1 (T k).2.1 (T k).2.2.1 ∈ GW) (hs : Sh a = some (.inl ci)) (hdg : decode cc pc = .ok (.getfield idx, 3))
    (kk : W p l e R s m args below meth c H locs cells slots Q (F0 m (pc + 3) ls (vK M (kd ci k) a k :: rest))) : W p l e R s m args below meth c H locs cells slots Q (F0 m pc ls (.ref a :: rest)) := by
  obtain ⟨hx, hb, hml, hown, hts⟩ := C
  obtain ⟨-, r, h1, cell, q1, q2, q3, q4⟩ := hP a _ hs
  obtain ⟨hc1, hc2, hc3, hc4⟩ := hc
  have hr : r = (Cn, T, N) := Option.some.inj (h1.symm.trans hc1)
  subst hr
  obtain ⟨hS, hfc, kC, hkC, hkind⟩ := hK.1 ci _ hc1
  obtain ⟨cf, kf, fi, f, hi, hsl⟩ := hS k hk
  refine W.getf hx hb hown (hts _ hlink) hi (u_facts hfc hkC (u_lays hts hc2 hk) hi).1 q1 (by rw [q3]; exact fun h => by cases h) (v := vK M (kd ci k) a k) ?_ rfl rfl hdg kk
  rw [hsl, q4 k hk]
theorem r_getN (C : CallFix p m c cc nL s args GW own) (hK : KK G s) (hP : HM G Sh M H) {ci k idx N : Nat} {Cn host : String} {T : u_T} (hc : CLS ci Cn T N) (hk : k < N) (hlink : (Cond.fieldLinkNest own idx (T k).1 (T k).2.1 (T k).2.2.1 host).before args s = true) (hs : Sh a = some (.inl ci)) (hdg : decode cc pc = .ok (.getfield idx, 3))
    (kk : W p l e R s m args below meth c H locs cells slots Q (F0 m (pc + 3) ls (vK M (kd ci k) a k :: rest))) : W p l e R s m args below meth c H locs cells slots Q (F0 m pc ls (.ref a :: rest)) := by
  obtain ⟨hx, hb, hml, hown, hts⟩ := C
  obtain ⟨-, r, h1, cell, q1, q2, q3, q4⟩ := hP a _ hs
  obtain ⟨hc1, hc2, hc3, hc4⟩ := hc
  have hr : r = (Cn, T, N) := Option.some.inj (h1.symm.trans hc1)
  subst hr
  obtain ⟨hS, hfc, kC, hkC, hkind⟩ := hK.1 ci _ hc1
  obtain ⟨cf, kf, fi, f, hi, hsl⟩ := hS k hk
  refine va_Wgetf hx hb hown hlink hi (u_facts hfc hkC (u_lays hts hc2 hk) hi).1 q1 (by rw [q3]; exact fun h => by cases h) (v := vK M (kd ci k) a k) ?_ rfl rfl hdg kk
  rw [hsl, q4 k hk]
/-- a field is written -/
theorem r_put0 (C : CallFix p m c cc nL s args GW own) (hK : KK G s) (hP : HM G Sh M H) (hS0 : SS G s nx H locs) {ci k idx N : Nat} {Cn : String} {T : u_T} (hc : CLS ci Cn T N) (hk : k < N) (hlink : Cond.fieldLink own idx (T k).1 (T k).2.1 (T k).2.2.1 ∈ GW) (hs : Sh a = some (.inl ci)) (hfin : (T k).2.2.2 = false)
    {ty : FieldType} {v : Value} (hd : parseFieldDescriptor (T k).2.2.1 = some ty) (hn : narrow ty v = v) (hfit : fits ty v = true) {M' : Mm} (hv : vK M' (kd ci k) a k = v) (ho : ∀ j, j ≠ k → vK M' (kd ci j) a j = vK M (kd ci j) a j) (e1 : ∀ b, b ≠ a → M'.1 b = M.1 b) (e2 : ∀ b, b ≠ a → M'.2.1 b = M.2.1 b) (e3 : ∀ b, b ≠ a → M'.2.2 b = M.2.2 b)
    (hdg : decode cc pc = .ok (.putfield idx, 3))
    (kk : ∀ (H1 : Heap) (locs1 : List Loc), HM G Sh M' H1 → SS G s nx H1 locs1 → W p l e R s m args below meth c H1 locs1 cells slots Q (F0 m (pc + 3) ls rest)) : W p l e R s m args below meth c H locs cells slots Q (F0 m pc ls (v :: .ref a :: rest)) := by
  obtain ⟨hx, hb, hml, hown, hts⟩ := C
  obtain ⟨hba, r, h1, cell, q1, q2, q3, q4⟩ := hP a _ hs
  obtain ⟨hc1, hc2, hc3, ty0, hc4⟩ := hc
  have hap := va_apart (own := own) hts hc2 ty0 hc4 hc3 hK hc1
  have hr : r = (Cn, T, N) := Option.some.inj (h1.symm.trans hc1)
  subst hr
  obtain ⟨hS, hfc, kC, hkC, hkind⟩ := hK.1 ci _ hc1
  obtain ⟨cf, kf, fi, f, hi, hsl⟩ := hS k hk
  have hlay := hts _ (hc2 _ (u_in_lay hk))
  unfold u_lay at hlay
  rw [if_neg (by rw [hfin]; decide)] at hlay
  have hst := (u_facts hfc hkC (u_lays hts hc2 hk) hi).1
  have h6 := u_store hfc hkC hkind hlay hi hd hn hfit
  refine W.putK hx hb (f := f) ⟨hown, hts _ hlink, ⟨_, _, _, hi⟩, hst⟩ (by rw [q2]; exact h6) q1 q3 (by rw [hsl]; exact k2_hasslot (q4 k hk)) rfl rfl hdg fun H' g1 g2 g3 => ?_
  rw [hsl] at g1 ⊢
  refine kk H' _ (hP.set hs ⟨_, hc1, t_OB.to (V := updV (fun k => vK M (kd ci k) a k) k v) ⟨_, g1, q2, q3, t_set q4 hap hk v⟩ (fun j _ => ?_)⟩ g3 e1 e2 e3) (hS0.put g2 g3 hba)
  by_cases hj : j = k
  · subst hj
    simp [updV, hv]
  · simp [updV, hj, ho j hj]
theorem r_putN0 (C : CallFix p m c cc nL s args GW own) (hK : KK G s) (hP : HM G Sh M H) (hS0 : SS G s nx H locs) {ci k idx N : Nat} {Cn host : String} {T : u_T} (hc : CLS ci Cn T N) (hk : k < N) (hlink : (Cond.fieldLinkNest own idx (T k).1 (T k).2.1 (T k).2.2.1 host).before args s = true) (hs : Sh a = some (.inl ci)) (hfin : (T k).2.2.2 = false)
    {ty : FieldType} {v : Value} (hd : parseFieldDescriptor (T k).2.2.1 = some ty) (hn : narrow ty v = v) (hfit : fits ty v = true) {M' : Mm} (hv : vK M' (kd ci k) a k = v) (ho : ∀ j, j ≠ k → vK M' (kd ci j) a j = vK M (kd ci j) a j) (e1 : ∀ b, b ≠ a → M'.1 b = M.1 b) (e2 : ∀ b, b ≠ a → M'.2.1 b = M.2.1 b) (e3 : ∀ b, b ≠ a → M'.2.2 b = M.2.2 b)
    (hdg : decode cc pc = .ok (.putfield idx, 3))
    (kk : ∀ (H1 : Heap) (locs1 : List Loc), HM G Sh M' H1 → SS G s nx H1 locs1 → W p l e R s m args below meth c H1 locs1 cells slots Q (F0 m (pc + 3) ls rest)) : W p l e R s m args below meth c H locs cells slots Q (F0 m pc ls (v :: .ref a :: rest)) := by
  obtain ⟨hx, hb, hml, hown, hts⟩ := C
  obtain ⟨hba, r, h1, cell, q1, q2, q3, q4⟩ := hP a _ hs
  obtain ⟨hc1, hc2, hc3, ty0, hc4⟩ := hc
  have hap := va_apart (own := own) hts hc2 ty0 hc4 hc3 hK hc1
  have hr : r = (Cn, T, N) := Option.some.inj (h1.symm.trans hc1)
  subst hr
  obtain ⟨hS, hfc, kC, hkC, hkind⟩ := hK.1 ci _ hc1
  obtain ⟨cf, kf, fi, f, hi, hsl⟩ := hS k hk
  have hlay := hts _ (hc2 _ (u_in_lay hk))
  unfold u_lay at hlay
  rw [if_neg (by rw [hfin]; decide)] at hlay
  have hst := (u_facts hfc hkC (u_lays hts hc2 hk) hi).1
  have h6 := u_store hfc hkC hkind hlay hi hd hn hfit
  refine va_WputK hx hb (f := f) hown hlink hi hst (by rw [q2]; exact h6) q1 q3 (by rw [hsl]; exact k2_hasslot (q4 k hk)) rfl rfl hdg fun H' g1 g2 g3 => ?_
  rw [hsl] at g1 ⊢
  refine kk H' _ (hP.set hs ⟨_, hc1, t_OB.to (V := updV (fun k => vK M (kd ci k) a k) k v) ⟨_, g1, q2, q3, t_set q4 hap hk v⟩ (fun j _ => ?_)⟩ g3 e1 e2 e3) (hS0.put g2 g3 hba)
  by_cases hj : j = k
  · subst hj
    simp [updV, hv]
  · simp [updV, hj, ho j hj]
end CORE
