/-! ===== CORE 7: constructors: the shape grows ===== -/
def upS (Sh : Sp) (a : Nat) (x : Nat ⊕ (Nat × Nat)) : Sp := fun b => if b = a then some x else Sh b
/-- the memory of a new cell: nothing, zero -/
def zM (M : Mm) (a : Nat) : Mm := (fun b => if b = a then fun _ => 0 else M.1 b, fun b => if b = a then fun _ => none else M.2.1 b, fun b => if b = a then fun _ => 0 else M.2.2 b)
def nO {ρ : Type} (Sh : Sp) (M : Mm) (nx ci : Nat) (K : Sp → Mm → Nat → Option ρ) : Option ρ := K (upS Sh nx (.inl ci)) (zM M nx) (nx + 1)
noncomputable def nA {ρ : Type} (Sh : Sp) (M : Mm) (nx ti cap : Nat) (n : Int32) (K : Sp → Mm → Nat → Option ρ) : Option ρ := chk (¬ n < 0 ∧ n.toNatClampNeg ≤ cap) (K (upS Sh nx (.inr (ti, n.toNatClampNeg))) (zM M nx) (nx + 1))
noncomputable def pF {ρ : Type} (Sh : Sp) (M : Mm) (a ci k b : Nat) (K : Mm → Option ρ) : Option ρ := chk (Sh a = some (.inl ci)) (K (uR M a k (some b)))
def QN (G : Gt) (r : Sp × Mm × Nat) : Array Value → State → Outcome → State → Prop := fun _ st o t => o = .returned none ∧ HM G r.1 r.2.1 t.heap ∧ va_F (AA G) st t ∧ t.heap.size = r.2.2
def CtN (l : Launch) (y : MethodName) (bytes : ByteArray) (mL : Nat) (rm : Room) (G : Gt) (Sh : Sp) (M : Mm) (nx : Nat) (avs : List Value) (r : Sp × Mm × Nat) : Prop :=
  Met l y (Cond.code y bytes mL none :: GW) rm (va_Pc avs (fun U => PG G Sh M U ∧ U.heap.size = nx)) (QN G r) rm.cells rm.slots (AA G)
theorem PG.blindN {G : Gt} {Sh : Sp} {M : Mm} {avs : List Value} {nx : Nat} : FrameBlind (va_Pc avs (fun U => PG G Sh M U ∧ U.heap.size = nx)) := fun _ _ _ _ q => ⟨q.1, ⟨q.2.1.1, KK.moved (Vm.Alike.refl _) q.2.1.2.1, XE.same q.2.1.2.2.1 rfl, q.2.1.2.2.2⟩, q.2.2⟩
theorem CtN.of {l : Launch} {y : MethodName} {bytes : ByteArray} {mL : Nat} {rm : Room} {G : Gt} {Sh : Sp} {M : Mm} {nx : Nat} {avs : List Value} {r : Sp × Mm × Nat} (hy : plainName y.cls = true) (hin : y.name = "<init>") (hlen : (lg_sl avs).length ≤ mL)
    (body : ∀ (p : Program) (e : Env) (s : State) (m : MethodId) (args : Array Value) (below : List Frame) (meth : Method) (c : Code) (ls : Array Slot), CallFix p m c bytes mL s args GW y.cls → KK G s → XE G s s.heap → HM G Sh M s.heap → SS G s nx s.heap [] → G.1 ≤ s.heap.size → meth.locks = false → meth.sig.returnType = none → meth.name = "<init>" → lv_has ls mL (lv_args 0 avs) →
      W p l e rm s m args below meth c s.heap [] 0 0 (MQ below (QN G r) args s rm.cells rm.slots (AA G)) (F0 m 0 ls [])) : CtN l y bytes mL rm G Sh M nx avs r := by
  refine Met.ofW (cc := bytes) (maxL := mL) (ret := none) hy rfl ?_
  intro p e s m args below meth c s₁ B hml hv
  obtain ⟨rfl, ⟨hP, hK, hX, hsz⟩, hnx⟩ := hv
  have hts : ∀ w ∈ GW, w.before avs.toArray s = true := fun w hw => atoms_spec (ws := Cond.code y bytes mL none :: GW) B.pre w (List.mem_cons_of_mem _ hw)
  have hown : s.vm.findClass y.cls = some m.cls := findClass_of_methodNamed B.named
  have hl := lv_entry avs hlen
  rw [lg_entry_eq]
  exact body p e s m avs.toArray below meth c _ ⟨B.exec, B.bytes, hml, hown, hts⟩ hK hX hP ⟨va_S.rf, hnx⟩ hsz B.notSynchronized B.returns ((name_of_methodNamed B.named B.method).1.trans hin) hl
section CORE7
variable {p : Program} {l : Launch} {e : Env} {R : Room} {s : State} {m : MethodId} {args : Array Value} {below : List Frame} {meth : Method} {c : Code} {H : Heap} {locs : List Loc} {cells slots : Nat} {Q : State → Prop}
variable {cc : ByteArray} {nL pc nx : Nat} {ls : Array Slot} {rest : List Value} {own : String} {G : Gt} {Sh : Sp} {M M1 : Mm} {a : Nat} {ρ : Type} {r0 : ρ} {v : Value}
theorem q_N (C : CallFix p m c cc nL s args GW own) (hlk : meth.locks = false) (hP : HM G Sh M H) (hS : SS G s nx H locs) {r : Sp × Mm × Nat} (hr : meth.sig.returnType = none) (er : (Sh, M, nx) = r) (hdg : decode cc pc = .ok (.return_, 1)) :
    W p l e R s m args below meth c H locs cells slots (MQ below (QN G r) args s cells slots (AA G)) (F0 m pc ls []) := by
  subst er
  exact W.vret (Qc := QN G (Sh, M, nx)) (free := AA G) C.1 C.2.1 hr (fun t ht _ => ⟨rfl, by rw [ht]; exact hP, hS.1.F ht, by rw [ht]; exact hS.2⟩) (fun q hq => hS.1.2.2 q hq) hdg (hlocks := hlk)
/-- a new cell at the heap's end -/
theorem HM.grow {H1 : Heap} {x : Nat ⊕ (Nat × Nat)} (hP : HM G Sh M H) (hnx : H.size = nx) (hb : G.1 ≤ nx) (he : HA G (zM M nx) nx x H1) (o1 : ∀ q : Nat, q < H.size → H1[q]? = H[q]?) : HM G (upS Sh nx x) (zM M nx) H1 := by
  intro b y hy
  by_cases hbn : b = nx
  · subst hbn
    simp only [upS, if_true] at hy
    cases hy
    exact ⟨hb, he⟩
  · simp only [upS, if_neg hbn] at hy
    obtain ⟨h1, h2⟩ := hP b y hy
    exact ⟨h1, h2.kept (o1 b h2.lt) (by simp [zM, hbn]) (by simp [zM, hbn]) (by simp [zM, hbn])⟩
theorem SS.grow {H1 : Heap} (hS : SS G s nx H locs) (z1 : H1.size = nx + 1) (o1 : ∀ q : Nat, q < H.size → H1[q]? = H[q]?) : SS G s (nx + 1) H1 locs :=
  ⟨⟨Nat.le_trans hS.1.1 (by rw [z1, hS.2]; omega), fun x h1 h2 => (o1 x (Nat.lt_of_lt_of_le h1 hS.1.1)).trans (hS.1.2.1 x h1 h2), hS.1.2.2⟩, z1⟩
theorem r_new (C : CallFix p m c cc nL s args GW own) (hK : KK G s) (hb : G.1 ≤ s.heap.size) (hP : HM G Sh M H) (hS : SS G s nx H locs) {ci idx N : Nat} {Cn : String} {T : u_T} (hc : CLS ci Cn T N) (ty : Nat → FieldType) (hty : ∀ k, k < N → parseFieldDescriptor (T k).2.2.1 = some (ty k)) (hdv : ∀ k, k < N → defaultValue (ty k) = (match kd ci k with | 0 => .int 0 | 1 => .null | _ => .long 0))
    (hcl : Cond.classLink own idx Cn ∈ GW) (hinst : Cond.instantiable Cn N ∈ GW) (hini : Cond.initialized Cn ∈ GW) {k1 k2 : Nat} (hk : cells + 1 ≤ k1 ∧ slots + N ≤ k2) (hR : k1 ≤ R.cells ∧ k2 ≤ R.slots) (hdg : decode cc pc = .ok (.new idx, 3))
    {K : Sp → Mm → Nat → Option ρ} (h : nO Sh M nx ci K = some r0) (kk : ∀ (S1 : Sp) (M1 : Mm) (n1 : Nat) (H1 : Heap) (locs1 : List Loc), K S1 M1 n1 = some r0 → HM G S1 M1 H1 → SS G s n1 H1 locs1 → W p l e R s m args below meth c H1 locs1 k1 k2 Q (F0 m (pc + 3) ls (.ref nx :: rest))) : W p l e R s m args below meth c H locs cells slots Q (F0 m pc ls rest) := by
  obtain ⟨hx, hbb, hml, hown, hts⟩ := C
  obtain ⟨hc1, hc2, -, -⟩ := hc
  have hKn := hK.1 ci _ hc1
  refine W.newcK hx hbb hown (hts _ hcl) (hts _ hinst) (hts _ hini) rfl hdg (Nat.le_trans hk.1 hR.1) (Nat.le_trans hk.2 hR.2) hKn.2.1 hS.2 fun H1 kC hkC e1 z1 o1 => ?_
  have o2 : ∀ q : Nat, q < H.size → H1[q]? = H[q]? := fun q hq => o1 q (by rw [← hS.2]; exact hq)
  refine W.widen hk.1 hk.2 (kk _ _ _ H1 locs h (hP.grow hS.2 (by rw [← hS.2]; exact Nat.le_trans hb hS.1.1) ?_ o2) (hS.grow z1 o2))
  refine ⟨_, hc1, (u_born ty hts hc2 hKn hkC e1 hty).to fun k hk => ?_⟩
  rw [hdv k hk]
  generalize kd ci k = q
  match q with
  | 0 => simp [vK, zM]
  | 1 => simp [vK, zM, va_rf]
  | (j + 2) => simp [vK, zM]
theorem r_newA (C : CallFix p m c cc nL s args GW own) (hK : KK G s) (hb : G.1 ≤ s.heap.size) (hP : HM G Sh M H) (hS : SS G s nx H locs) {atype : ArrayType} {ti cap : Nat} {n : Int32} (harr : Cond.arrayClass (newarray.typeOf atype) ∈ GW) (hti : ti < 4) (hty : newarray.typeOf atype = aTy ti) (hcap : cap ≤ 20000) {k1 k2 : Nat} (hk : cells + 1 ≤ k1 ∧ slots + cap ≤ k2) (hR : k1 ≤ R.cells ∧ k2 ≤ R.slots) (hdg : decode cc pc = .ok (.newarray atype, 2))
    {K : Sp → Mm → Nat → Option ρ} (h : nA Sh M nx ti cap n K = some r0) (kk : ∀ (S1 : Sp) (M1 : Mm) (n1 : Nat) (H1 : Heap) (locs1 : List Loc), K S1 M1 n1 = some r0 → HM G S1 M1 H1 → SS G s n1 H1 locs1 → W p l e R s m args below meth c H1 locs1 k1 k2 Q (F0 m (pc + 2) ls (.ref nx :: rest))) : W p l e R s m args below meth c H locs cells slots Q (F0 m pc ls (.int n :: rest)) := by
  obtain ⟨⟨hn, hle⟩, h⟩ := chk_some h
  obtain ⟨hx, hbb, hml, hown, hts⟩ := C
  have hcb : componentBytes (newarray.typeOf atype) ≤ 8 := by rw [hty]; (rcases (by omega : ti = 0 ∨ ti = 1 ∨ ti = 2 ∨ ti = 3) with rfl | rfl | rfl | rfl) <;> decide
  have hmul : n.toNatClampNeg * componentBytes (newarray.typeOf atype) ≤ 536870912 := Nat.le_trans (Nat.mul_le_mul (Nat.le_trans hle hcap) hcb) (by decide)
  refine va_newaK hx hbb (hts _ harr) rfl hdg rfl hn rfl hmul (Nat.le_trans hk.1 hR.1) (by have := hk.2; have := hR.2; omega) hS.2 fun H1 cA e1 z1 o1 hAr hNm => ?_
  have o2 : ∀ q : Nat, q < H.size → H1[q]? = H[q]? := fun q hq => o1 q (by rw [← hS.2]; exact hq)
  have hcA : cA = G.2.2.1 ti := by
    rw [hty] at hNm
    have h6 := (hK.arr (ti := ti) (by omega)).2
    rcases (by omega : ti = 0 ∨ ti = 1 ∨ ti = 2 ∨ ti = 3) with rfl | rfl | rfl | rfl <;> exact Option.some.inj (hNm.symm.trans h6)
  subst hcA
  refine W.widen hk.1 (by have := hk.2; omega) (kk _ _ _ H1 locs h (hP.grow hS.2 (by rw [← hS.2]; exact Nat.le_trans hb hS.1.1) ⟨?_, by show ti < 6; omega, fun _ j => by simp [zM, fits]⟩ o2) (hS.grow z1 o2))
  rw [e1, hty]
  congr 2
  funext j
  rcases (by omega : ti = 0 ∨ ti = 1 ∨ ti = 2 ∨ ti = 3) with rfl | rfl | rfl | rfl <;> simp [vK, aKd, zM, aTy, defaultValue]
theorem r_newQ (C : CallFix p m c cc nL s args GW own) (hK : KK G s) (hb : G.1 ≤ s.heap.size) (hP : HM G Sh M H) (hS : SS G s nx H locs) {ti cap idx : Nat} {n : Int32} {Cn : String} (hti : ti = 4 ∨ ti = 5) (hty : aTy ti = .object Cn) (hAO : va_AO Cn s) (hcl : Cond.classLink own idx Cn ∈ GW) (hcap : cap ≤ 20000) {k1 k2 : Nat} (hk : cells + 1 ≤ k1 ∧ slots + cap ≤ k2) (hR : k1 ≤ R.cells ∧ k2 ≤ R.slots) (hdg : decode cc pc = .ok (.anewarray idx, 3))
    {K : Sp → Mm → Nat → Option ρ} (h : nA Sh M nx ti cap n K = some r0) (kk : ∀ (S1 : Sp) (M1 : Mm) (n1 : Nat) (H1 : Heap) (locs1 : List Loc), K S1 M1 n1 = some r0 → HM G S1 M1 H1 → SS G s n1 H1 locs1 → W p l e R s m args below meth c H1 locs1 k1 k2 Q (F0 m (pc + 3) ls (.ref nx :: rest))) : W p l e R s m args below meth c H locs cells slots Q (F0 m pc ls (.int n :: rest)) := by
  obtain ⟨⟨hn, hle⟩, h⟩ := chk_some h
  obtain ⟨hx, hbb, hml, hown, hts⟩ := C
  have hmul : n.toNatClampNeg * 4 ≤ 536870912 := Nat.le_trans (Nat.mul_le_mul (Nat.le_trans hle hcap) (Nat.le_refl 4)) (by decide)
  refine W.anew hx hbb hown (hts _ hcl) (va_AO.use hAO) rfl hdg rfl hn hmul (Nat.le_trans hk.1 hR.1) (by have := hk.2; have := hR.2; omega) fun cA kA comp f1 f2 f3 f4 => ?_
  generalize hH1 : H.push ({ cls := cA, slots := Array.replicate n.toNatClampNeg .null, vm := .none } : Cell) = H1
  have z1 : H1.size = nx + 1 := by rw [← hH1, Array.size_push, hS.2]
  have e1 : H1[nx]? = some (arrV cA n.toNatClampNeg (fun _ => .null)) := by rw [← hH1, ← hS.2, Array.getElem?_push_size, ← arrV_new]
  have o2 : ∀ q : Nat, q < H.size → H1[q]? = H[q]? := fun q hq => by rw [← hH1, Array.getElem?_push, if_neg (Nat.ne_of_lt hq)]
  have h6 : ti < 6 := by rcases hti with rfl | rfl <;> decide
  have hcA : cA = G.2.2.1 ti := by
    have h7 := (hK.arr h6).2
    rw [hty] at h7
    obtain ⟨_, _, -, -, -, h8⟩ := h7
    exact Option.some.inj (f1.symm.trans h8)
  subst hcA
  rw [hS.2]
  refine W.widen hk.1 (by have := hk.2; omega) (kk _ _ _ H1 locs h (hP.grow hS.2 (by rw [← hS.2]; exact Nat.le_trans hb hS.1.1) ⟨?_, h6, fun q => by rcases hti with rfl | rfl <;> cases q⟩ o2) (hS.grow z1 o2))
  rw [e1]
  congr 2
  funext j
  rcases hti with rfl | rfl <;> simp [vK, aKd, zM, va_rf]
theorem r_pFin (C : CallFix p m c cc nL s args GW own) (hK : KK G s) (hP : HM G Sh M H) (hS0 : SS G s nx H locs) (hin : meth.name = "<init>") {ci k idx N b : Nat} {Cn : String} {T : u_T} (hc : CLS ci Cn T N) (hk : k < N) (hlink : Cond.fieldLink own idx (T k).1 (T k).2.1 (T k).2.2.1 ∈ GW) (hkd : kd ci k = 1) (hfin : (T k).2.2.2 = true) (hdecl : (T k).1 = own) {ty : FieldType} (hd : parseFieldDescriptor (T k).2.2.1 = some ty) (hn : narrow ty (.ref b) = .ref b) (hfit : fits ty (.ref b) = true) (hdg : decode cc pc = .ok (.putfield idx, 3))
    {K : Mm → Option ρ} (h : pF Sh M a ci k b K = some r0) (kk : ∀ (M' : Mm) (H1 : Heap) (locs1 : List Loc), K M' = some r0 → HM G Sh M' H1 → SS G s nx H1 locs1 → W p l e R s m args below meth c H1 locs1 cells slots Q (F0 m (pc + 3) ls rest)) : W p l e R s m args below meth c H locs cells slots Q (F0 m pc ls (.ref b :: .ref a :: rest)) := by
  obtain ⟨hs, h⟩ := chk_some h
  obtain ⟨hx, hb, hml, hown, hts⟩ := C
  obtain ⟨hba, r, h1, cell, q1, q2, q3, q4⟩ := hP a _ hs
  obtain ⟨hc1, hc2, hc3, ty0, hc4⟩ := hc
  have hap := va_apart (own := own) hts hc2 ty0 hc4 hc3 hK hc1
  have hr : r = (Cn, T, N) := Option.some.inj (h1.symm.trans hc1)
  subst hr
  obtain ⟨hS, hfc, kC, hkC, hkind⟩ := hK.1 ci _ hc1
  obtain ⟨cf, kf, fi, f, hi, hsl⟩ := hS k hk
  have hlay := hts _ (hc2 _ (u_in_lay hk))
  unfold u_lay at hlay
  rw [if_pos hfin] at hlay
  have hst := (u_facts hfc hkC (u_lays hts hc2 hk) hi).1
  have hcf : m.cls = cf := by
    obtain ⟨_, _, c', _, _, _, -, -, hf', -, -, -, hown2, -⟩ := Cond.laysFinal_spec hlay
    have e1 : c' = cf := by have := hi.symm.trans hf'; simp at this; exact this.1.symm
    rw [hdecl] at hown2
    rw [← e1]; exact Option.some.inj (hown.symm.trans hown2)
  have h6 := u_fits hfc hkC hkind (Or.inr hlay) hi hd hn hfit
  refine W.putFinK hx hb hown (hts _ hlink) hi hst hcf hin (by rw [q2]; exact h6) q1 q3 (by rw [hsl]; exact k2_hasslot (q4 k hk)) rfl rfl hdg fun H' g1 g2 g3 => ?_
  rw [hsl] at g1 ⊢
  refine kk _ H' _ h (hP.set hs (M' := uR M a k (some b)) ⟨_, hc1, t_OB.to (V := updV (fun k => vK M (kd ci k) a k) k (.ref b)) ⟨_, g1, q2, q3, t_set q4 hap hk _⟩ (fun j _ => ?_)⟩ g3 (fun _ _ => rfl) (fun b hb => by simp [uR, hb]) (fun _ _ => rfl)) (hS0.put g2 g3 hba)
  by_cases hj : j = k
  · subst hj
    simp [updV, hkd, vK, uR, va_up, va_rf]
  · simp only [updV, if_neg hj]
    unfold vK uR
    split <;> simp [va_up, hj]
theorem r_runN {mc ms : Nat} {st0 : List Value} {av : Array Value} {r : Sp × Mm × Nat} (hr : va_Run p l e R s m args below meth c H locs cells slots mc ms (F0 m pc ls st0) rest (QN G r av) (AA G)) (hS : SS G s nx H locs) {k1 k2 : Nat} (hk : cells + mc ≤ k1 ∧ slots + ms ≤ k2)
    (kk : ∀ (H1 : Heap) (locs1 : List Loc), HM G r.1 r.2.1 H1 → SS G s r.2.2 H1 locs1 → W p l e R s m args below meth c H1 locs1 k1 k2 Q (F0 m (pc + 3) ls rest)) : W p l e R s m args below meth c H locs cells slots Q (F0 m pc ls st0) := by
  intro T hT X
  obtain ⟨v, st₀, t, T', L, h0, X', hL, e1, e2, ⟨hv, hP1, hF, hz⟩, st⟩ := hr T hT X
  cases hv
  rw [va_F, h0] at hF
  obtain ⟨t2, a1, b1⟩ := W.widen hk.1 hk.2 (kk T'.heap (locs ++ L) (by rw [e1]; exact hP1) ⟨⟨Nat.le_trans hS.1.1 (by rw [e1]; exact hF.1), fun q h1 h2 => by rw [e1, hF.2 q (Nat.lt_of_lt_of_le h1 hS.1.1) h2]; exact hS.1.2.1 q h1 h2, fun q hq => by
      rcases List.mem_append.mp hq with h | h
      · exact hS.1.2.2 q h
      · exact hL q h⟩, by rw [e1]; exact hz⟩) T' rfl X'
  exact ⟨t2, st t2 a1, b1⟩
theorem r_I {y : MethodName} {bytes : ByteArray} {mL n idx : Nat} {rm : Room} {As : List Value} {r : Sp × Mm × Nat} (C : CallFix p m c cc nL s args GW own) (hK : KK G s) (hX : XE G s s.heap) (hb : G.1 ≤ s.heap.size) (hP : HM G Sh M H) (hS : SS G s nx H locs) (hl : ls.size = nL)
    (hM : CtN l y bytes mL rm G Sh M nx (.ref a :: As) r) (hin : y.name = "<init>") (hlink : Cond.methodLink own idx y ∈ GW) (hy : MOK y bytes mL none n) (w2 : Cond.instanceMethod y ∈ GW) (hR : rm.frames + 1 ≤ R.frames ∧ 8 + (mL + 11) + rm.locals ≤ R.locals) {k1 k2 : Nat} (hk : cells + rm.cells ≤ k1 ∧ slots + rm.slots ≤ k2) (hRR : k1 ≤ R.cells ∧ k2 ≤ R.slots)
    (hn : As.length = n) {st0 : List Value} (hst : st0 = As.reverse ++ .ref a :: rest) (hW : (rest.map fun v => v.category).sum ≤ 8) (hdg : decode cc pc = .ok (.invokespecial idx, 3))
    (kk : ∀ (H1 : Heap) (locs1 : List Loc), HM G r.1 r.2.1 H1 → SS G s r.2.2 H1 locs1 → W p l e R s m args below meth c H1 locs1 k1 k2 Q (F0 m (pc + 3) ls rest)) : W p l e R s m args below meth c H locs cells slots Q (F0 m pc ls st0) := by
  subst hst
  exact r_runN (va_runI (As := As) (rest := rest) C hM ⟨cb_of C hy hlink hR, hin, C.2.2.2.2 _ w2⟩ ⟨PG.blindN, fun U hU hW => ⟨rfl, pg_at hK hX hP hS hb hU hW, by rw [hU]; exact hS.2⟩⟩ rfl hn hl rfl (lv_room hW) hdg ⟨Nat.le_trans hk.1 hRR.1, Nat.le_trans hk.2 hRR.2⟩) hS hk kk
theorem r_IN {y : MethodName} {host : String} {bytes : ByteArray} {mL n idx : Nat} {rm : Room} {As : List Value} {r : Sp × Mm × Nat} (C : CallFix p m c cc nL s args GW own) (hK : KK G s) (hX : XE G s s.heap) (hb : G.1 ≤ s.heap.size) (hP : HM G Sh M H) (hS : SS G s nx H locs) (hl : ls.size = nL)
    (hM : CtN l y bytes mL rm G Sh M nx (.ref a :: As) r) (hin : y.name = "<init>") (hlink : va_Nw (.methodLinkNest own idx y host) s) (hy : MOK y bytes mL none n) (w2 : Cond.instanceMethod y ∈ GW) (hR : rm.frames + 1 ≤ R.frames ∧ 8 + (mL + 11) + rm.locals ≤ R.locals) {k1 k2 : Nat} (hk : cells + rm.cells ≤ k1 ∧ slots + rm.slots ≤ k2) (hRR : k1 ≤ R.cells ∧ k2 ≤ R.slots)
    (hn : As.length = n) {st0 : List Value} (hst : st0 = As.reverse ++ .ref a :: rest) (hW : (rest.map fun v => v.category).sum ≤ 8) (hdg : decode cc pc = .ok (.invokespecial idx, 3))
    (kk : ∀ (H1 : Heap) (locs1 : List Loc), HM G r.1 r.2.1 H1 → SS G s r.2.2 H1 locs1 → W p l e R s m args below meth c H1 locs1 k1 k2 Q (F0 m (pc + 3) ls rest)) : W p l e R s m args below meth c H locs cells slots Q (F0 m pc ls st0) := by
  subst hst
  obtain ⟨h1, h2, h3, h4, h5⟩ := hy
  exact r_runN (va_runIN (As := As) (rest := rest) C hM ⟨va_cnB n C.2.2.2.2 (gw_in (fun w hw => (List.mem_cons.mp hw).elim (fun e => by rw [e]; exact h1) (fun h => h))) rfl rfl rfl hlink (C.2.2.2.2 _ h2) ⟨h3, h4, h5⟩ hR, hin, C.2.2.2.2 _ w2⟩ ⟨PG.blindN, fun U hU hW => ⟨rfl, pg_at hK hX hP hS hb hU hW, by rw [hU]; exact hS.2⟩⟩ rfl hn hl rfl (lv_room hW) hdg ⟨Nat.le_trans hk.1 hRR.1, Nat.le_trans hk.2 hRR.2⟩) hS hk kk
end CORE7
