/-! ===== CORE 5: methods that may throw ===== -/
def rsI (r : String ⊕ Int32) : String ⊕ Option Value := match r with
  | .inl E => .inl E
  | .inr v => .inr (some (.int v))
def rsU (r : String ⊕ Unit) : String ⊕ Option Value := match r with
  | .inl E => .inl E
  | .inr _ => .inr none
def QX (G : Gt) (Sh : Sp) (o1 : String ⊕ Option Value) (M1 : Mm) : Array Value → State → Outcome → State → Prop := fun _ st o t => ∃ v, o1 = .inr v ∧ o = .returned v ∧ HM G Sh M1 t.heap ∧ va_F (AA G) st t ∧ t.heap.size = st.heap.size
def XX (G : Gt) (Sh : Sp) (o1 : String ⊕ Option Value) (M1 : Mm) : String → State → State → Prop := fun E st t => o1 = .inl E ∧ HM G Sh M1 t.heap ∧ va_F (AA G) st t
/-- a contract of a method that returns or throws: o1 says which -/
def CtX (l : Launch) (y : MethodName) (bytes : ByteArray) (mL : Nat) (ret : Option FieldType) (rm : Room) (G : Gt) (Sh : Sp) (M : Mm) (avs : List Value) (o1 : String ⊕ Option Value) (M1 : Mm) : Prop :=
  vx_Met l y (Cond.code y bytes mL ret :: GW) rm (va_Pc avs (PG G Sh M)) (QX G Sh o1 M1) (XX G Sh o1 M1) rm.cells rm.slots (AA G)
theorem CtX.of {l : Launch} {y : MethodName} {bytes : ByteArray} {mL : Nat} {ret : Option FieldType} {rm : Room} {G : Gt} {Sh : Sp} {M : Mm} {avs : List Value} {o1 : String ⊕ Option Value} {M1 : Mm} (hy : plainName y.cls = true) (hlen : (lg_sl avs).length ≤ mL)
    (body : ∀ (p : Program) (e : Env) (s : State) (m : MethodId) (args : Array Value) (below : List Frame) (meth : Method) (c : Code) (ls : Array Slot), CallFix p m c bytes mL s args GW y.cls → KK G s → XE G s s.heap → HM G Sh M s.heap → SS G s s.heap.size s.heap [] → G.1 ≤ s.heap.size → meth.locks = false → meth.sig.returnType = ret → (∀ x ∈ c.exceptionTable.toList, False) → lv_has ls mL (lv_args 0 avs) →
      W p l e rm s m args below meth c s.heap [] 0 0 (vx_MQ below (QX G Sh o1 M1) (XX G Sh o1 M1) args s rm.cells rm.slots (AA G)) (F0 m 0 ls [])) : CtX l y bytes mL ret rm G Sh M avs o1 M1 := by
  refine vx_ofW (cc := bytes) (maxL := mL) (ret := ret) hy rfl ?_
  intro p e s m args below meth c s₁ B hml hno hv
  obtain ⟨rfl, hP, hK, hX, hsz⟩ := hv
  have hts : ∀ w ∈ GW, w.before avs.toArray s = true := fun w hw => atoms_spec (ws := Cond.code y bytes mL ret :: GW) B.pre w (List.mem_cons_of_mem _ hw)
  have hown : s.vm.findClass y.cls = some m.cls := findClass_of_methodNamed B.named
  have hl := lv_entry avs hlen
  rw [lg_entry_eq]
  exact body p e s m avs.toArray below meth c _ ⟨B.exec, B.bytes, hml, hown, hts⟩ hK hX hP ⟨va_S.rf, rfl⟩ hsz B.notSynchronized B.returns hno hl
/-- a call of what may throw -/
def xb {ρ : Type} (x : Option (String ⊕ Unit)) (onE : String → Option ρ) (K : Option ρ) : Option ρ := match x with
  | none => none
  | some (.inl E) => onE E
  | some (.inr _) => K
theorem xb_some {ρ : Type} {x : Option (String ⊕ Unit)} {onE : String → Option ρ} {K : Option ρ} {r : ρ} (h : xb x onE K = some r) : ∃ z, x = some z ∧ (∀ E, z = .inl E → onE E = some r) ∧ (z = .inr () → K = some r) := by
  unfold xb at h
  match x, h with
  | none, h => cases h
  | some (.inl E), h => exact ⟨_, rfl, (fun E' q => by cases q; exact h), (fun q => by cases q)⟩
  | some (.inr u), h => exact ⟨_, rfl, (fun E' q => by cases q), fun _ => h⟩
section CORE5
variable {p : Program} {l : Launch} {e : Env} {R : Room} {s : State} {m : MethodId} {args : Array Value} {below : List Frame} {meth : Method} {c : Code} {H : Heap} {locs : List Loc} {cells slots : Nat} {Q : State → Prop}
variable {cc : ByteArray} {nL pc nx : Nat} {ls : Array Slot} {rest : List Value} {own : String} {G : Gt} {Sh : Sp} {M M1 : Mm} {a : Nat} {ρ : Type} {r0 : ρ} {o1 : String ⊕ Option Value}
theorem x_ret {g : JFrame} {rv : Option Value} (e1 : o1 = .inr rv) (k : W p l e R s m args below meth c H locs cells slots (MQ below (QG G Sh M1 rv) args s cells slots (AA G)) g) : W p l e R s m args below meth c H locs cells slots (vx_MQ below (QX G Sh o1 M1) (XX G Sh o1 M1) args s cells slots (AA G)) g := by
  intro T hT X
  obtain ⟨t, a1, o, b1, b2, b3, b4⟩ := k T hT X
  exact ⟨t, a1, o, b1, b2, Or.inl ⟨⟨rv, e1, b3.1, b3.2⟩, b4⟩⟩
theorem x_i (C : CallFix p m c cc nL s args GW own) (hlk : meth.locks = false) (hP : HM G Sh M H) (hS : SS G s s.heap.size H locs) {v : Int32} {r : (String ⊕ Int32) × Mm} (hr : meth.sig.returnType = some .int) (er : (Sum.inr v, M) = r) (hdg : decode cc pc = .ok (.ireturn, 1)) :
    W p l e R s m args below meth c H locs cells slots (vx_MQ below (QX G Sh (rsI r.1) r.2) (XX G Sh (rsI r.1) r.2) args s cells slots (AA G)) (F0 m pc ls [.int v]) := by
  subst er
  exact x_ret rfl (q_i C hlk hP hS hr rfl rfl hdg)
theorem x_ir (C : CallFix p m c cc nL s args GW own) (hlk : meth.locks = false) (hP : HM G Sh M H) (hS : SS G s s.heap.size H locs) {v : Int32} {r : String ⊕ Int32} (hr : meth.sig.returnType = some .int) (er : Sum.inr v = r) (hdg : decode cc pc = .ok (.ireturn, 1)) :
    W p l e R s m args below meth c H locs cells slots (vx_MQ below (QX G Sh (rsI r) M) (XX G Sh (rsI r) M) args s cells slots (AA G)) (F0 m pc ls [.int v]) := by
  subst er
  exact x_ret rfl (q_i C hlk hP hS hr rfl rfl hdg)
theorem x_zr (C : CallFix p m c cc nL s args GW own) (hlk : meth.locks = false) (hP : HM G Sh M H) (hS : SS G s s.heap.size H locs) {v : Int32} {r : String ⊕ Int32} (hr : meth.sig.returnType = some .boolean) (hn : v = 0 ∨ v = 1) (er : Sum.inr v = r) (hdg : decode cc pc = .ok (.ireturn, 1)) :
    W p l e R s m args below meth c H locs cells slots (vx_MQ below (QX G Sh (rsI r) M) (XX G Sh (rsI r) M) args s cells slots (AA G)) (F0 m pc ls [.int v]) := by
  subst er
  exact x_ret rfl (q_z C hlk hP hS hr hn rfl rfl hdg)
theorem x_vr (C : CallFix p m c cc nL s args GW own) (hlk : meth.locks = false) (hP : HM G Sh M H) (hS : SS G s s.heap.size H locs) {r : String ⊕ Unit} (hr : meth.sig.returnType = none) (er : Sum.inr () = r) (hdg : decode cc pc = .ok (.return_, 1)) :
    W p l e R s m args below meth c H locs cells slots (vx_MQ below (QX G Sh (rsU r) M) (XX G Sh (rsU r) M) args s cells slots (AA G)) (F0 m pc ls []) := by
  subst er
  exact x_ret rfl (q_v C hlk hP hS hr rfl rfl hdg)
/-- the words of a throw -/
def xnames : List String := ["java/lang/RuntimeException", "java/lang/Exception"]
def XW (ic : Nat) (E : String) : Prop := ∀ w ∈ vx_atS RX6 ic E xnames, w ∈ lw_tbl ∧ (goodWord w = true ∨ nwWord w = true)
/-- new E(text), thrown, in a method of SpokenTree without a table -/
theorem x_new (C : CallFix p m c cc nL s args GW RX6) (hfl : l.stackTraces = false) (hno : ∀ x ∈ c.exceptionTable.toList, False) (hX : XE G s s.heap) (hP : HM G Sh M H) (hS : SS G s nx H locs) (hlk : meth.locks = false) (hl : ls.size = nL) {E text : String} {ik is ic : Nat}
    (hcls : Bundle.fit E = true) (hk : Cond.classLink RX6 ik E ∈ GW) (hini : Cond.initialized E ∈ GW) (htx : (is, text) ∈ excT) (hw : XW ic E)
    (hg : ∀ w ∈ Cond.classLink RX6 ik E :: Cond.initialized E :: vx_atS RX6 ic E xnames, vx_ot w = true)
    (d0 : decode cc pc = .ok (.new ik, 3)) (d3 : decode cc (pc + 3) = .ok (.dup, 1)) (d4 : decode cc (pc + 4) = .ok (.ldc is, 2)) (d6 : decode cc (pc + 6) = .ok (.invokespecial ic, 3)) (d9 : decode cc (pc + 9) = .ok (.athrow, 1))
    (hRf : 5 < R.frames) (hRl : (rest.map fun v => v.category).sum + 82 ≤ R.locals) {mc ms : Nat} (hRc : cells + 1 ≤ R.cells) (hRs : slots + 6 ≤ R.slots) (hc : cells + 1 ≤ mc) (hs : slots + 6 ≤ ms) (eo : o1 = .inl E) :
    W p l e R s m args below meth c H locs cells slots (vx_MQ below (QX G Sh o1 M) (XX G Sh o1 M) args s mc ms (AA G)) (F0 m pc ls rest) := by
  obtain ⟨sa, hstr⟩ := hX.2.2.2.2.2.2.1 _ htx
  obtain ⟨hx, hb, hml, hown, hts⟩ := C
  refine vx_throwS hx hb hfl (names := xnames) (text := text) (sa := sa) (A := AA G) hown hcls (by decide +kernel) (hts _ hk) (hts _ hini) hstr (fun w hw' => ?_) hg hX.1 hX.2.1 hS.1 (hl.trans hml.symm) d0 d3 d4 d6 d9 (fun x hx => (hno x hx).elim) hRf hRl hRc hRs hlk (fun t _ ht1 ht2 => ?_) (fun z hz => hS.1.2.2 z hz) hc hs
  · obtain ⟨h1, h2 | h2⟩ := hw w hw'
    · exact hts _ (List.mem_filter.mpr ⟨h1, h2⟩)
    · exact hX.nw (List.mem_filter.mpr ⟨h1, h2⟩)
  · exact ⟨eo, hP.off ht2, Nat.le_trans hS.1.1 ht1, fun q h1 h2 => by rw [ht2 q (Nat.lt_of_lt_of_le h1 hS.1.1)]; exact hS.1.2.1 q h1 h2⟩
/-- new E(text), thrown, in a method of SpokenTree without a table -/
theorem x_newW (C : CallFix p m c cc nL s args GW RX6) (hfl : l.stackTraces = false) (hno : ∀ x ∈ c.exceptionTable.toList, False) (hX : XE G s s.heap) (hP : HM G Sh M H) (hS : SS G s nx H locs) (hlk : meth.locks = false) (hl : ls.size = nL) {E text : String} {ik is ic : Nat}
    (hcls : Bundle.fit E = true) (hk : Cond.classLink RX6 ik E ∈ GW) (hini : Cond.initialized E ∈ GW) (htx : (is, text) ∈ excT) (hw : XW ic E)
    (hg : ∀ w ∈ Cond.classLink RX6 ik E :: Cond.initialized E :: vx_atS RX6 ic E xnames, vx_ot w = true)
    (d0 : decode cc pc = .ok (.new ik, 3)) (d3 : decode cc (pc + 3) = .ok (.dup, 1)) (d4 : decode cc (pc + 4) = .ok (.ldc_w is, 3)) (d6 : decode cc (pc + 7) = .ok (.invokespecial ic, 3)) (d9 : decode cc (pc + 10) = .ok (.athrow, 1))
    (hRf : 5 < R.frames) (hRl : (rest.map fun v => v.category).sum + 82 ≤ R.locals) {mc ms : Nat} (hRc : cells + 1 ≤ R.cells) (hRs : slots + 6 ≤ R.slots) (hc : cells + 1 ≤ mc) (hs : slots + 6 ≤ ms) (eo : o1 = .inl E) :
    W p l e R s m args below meth c H locs cells slots (vx_MQ below (QX G Sh o1 M) (XX G Sh o1 M) args s mc ms (AA G)) (F0 m pc ls rest) := by
  obtain ⟨sa, hstr⟩ := hX.2.2.2.2.2.2.1 _ htx
  obtain ⟨hx, hb, hml, hown, hts⟩ := C
  refine vx_throwSW hx hb hfl (names := xnames) (text := text) (sa := sa) (A := AA G) hown hcls (by decide +kernel) (hts _ hk) (hts _ hini) hstr (fun w hw' => ?_) hg hX.1 hX.2.1 hS.1 (hl.trans hml.symm) d0 d3 d4 d6 d9 (fun x hx => (hno x hx).elim) hRf hRl hRc hRs hlk (fun t _ ht1 ht2 => ?_) (fun z hz => hS.1.2.2 z hz) hc hs
  · obtain ⟨h1, h2 | h2⟩ := hw w hw'
    · exact hts _ (List.mem_filter.mpr ⟨h1, h2⟩)
    · exact hX.nw (List.mem_filter.mpr ⟨h1, h2⟩)
  · exact ⟨eo, hP.off ht2, Nat.le_trans hS.1.1 ht1, fun q h1 h2 => by rw [ht2 q (Nat.lt_of_lt_of_le h1 hS.1.1)]; exact hS.1.2.1 q h1 h2⟩
theorem r_runX {mc ms : Nat} {st0 : List Value} {av : Array Value} (hr : vx_Run p l e R s m args below meth c H locs cells slots mc ms (F0 m pc ls st0) rest (QX G Sh o1 M1 av) (XX G Sh o1 M1) (AA G)) (hS : SS G s nx H locs)
    (kx : ∀ (E : String) (ce : Cell) (q : Nat) (H1 : Heap) (locs1 : List Loc), o1 = .inl E → HM G Sh M1 H1 → va_S (AA G) s.heap H1 locs1 → H1[q]? = some ce → ce.vm = .none → s.vm.findClass E = some ce.cls → vx_W p l e R s m args below meth c H1 locs1 (cells + mc) (slots + ms) Q (F0 m pc ls rest) q)
    (kk : ∀ (v : Option Value) (H1 : Heap) (locs1 : List Loc), o1 = .inr v → HM G Sh M1 H1 → SS G s nx H1 locs1 → W p l e R s m args below meth c H1 locs1 (cells + mc) (slots + ms) Q (F0 m (pc + 3) ls (v.toList ++ rest))) : W p l e R s m args below meth c H locs cells slots Q (F0 m pc ls st0) := by
  intro T hT X
  rcases hr T hT X with ⟨v, st₀, t, T', L, h0, X', hL, e1, e2, ⟨v', ho, hv, hP1, hF, hz⟩, st⟩ | ⟨q, st₀, t, T', L, E, ce, h0, X', hL, e1, e2, ⟨ho, hP1, hF⟩, hce, hcv, hcl, st⟩
  · cases hv
    rw [va_F, h0] at hF
    rw [h0] at hz
    obtain ⟨t2, a1, b1⟩ := kk v T'.heap (locs ++ L) ho (by rw [e1]; exact hP1) ⟨⟨Nat.le_trans hS.1.1 (by rw [e1]; exact hF.1), fun q h1 h2 => by rw [e1, hF.2 q (Nat.lt_of_lt_of_le h1 hS.1.1) h2]; exact hS.1.2.1 q h1 h2, fun q hq => by
      rcases List.mem_append.mp hq with h | h
      · exact hS.1.2.2 q h
      · exact hL q h⟩, by rw [e1, hz]; exact hS.2⟩ T' rfl X'
    exact ⟨t2, st t2 a1, b1⟩
  · rw [va_F, h0] at hF
    obtain ⟨t2, a1, b1⟩ := kx E ce q T'.heap (locs ++ L) ho (by rw [e1]; exact hP1) ⟨Nat.le_trans hS.1.1 (by rw [e1]; exact hF.1), fun q h1 h2 => by rw [e1, hF.2 q (Nat.lt_of_lt_of_le h1 hS.1.1) h2]; exact hS.1.2.1 q h1 h2, fun q hq => by
      rcases List.mem_append.mp hq with h | h
      · exact hS.1.2.2 q h
      · exact hL q h⟩ (by rw [e1]; exact hce) hcv hcl T' rfl X'
    exact ⟨t2, st.trans a1, b1⟩
/-- it goes on to the caller -/
theorem x_out {E : String} {ce : Cell} {q : Nat} {mc ms : Nat} (hno : ∀ x ∈ c.exceptionTable.toList, False) (hlk : meth.locks = false) (hP : HM G Sh M H) (hS : va_S (AA G) s.heap H locs) (hce : H[q]? = some ce) (hcv : ce.vm = .none) (hcl : s.vm.findClass E = some ce.cls) (eo : o1 = .inl E) (hc : cells ≤ mc) (hs : slots ≤ ms) :
    vx_W p l e R s m args below meth c H locs cells slots (vx_MQ below (QX G Sh o1 M) (XX G Sh o1 M) args s mc ms (AA G)) (F0 m pc ls rest) q :=
  vx_out (fun x hx => (hno x hx).elim) hlk hce hcv hcl (fun t ht _ => ⟨eo, by rw [ht]; exact hP, hS.F ht⟩) (fun z hz => hS.2.2 z hz) hc hs
theorem r_VX {y : MethodName} {bytes : ByteArray} {mL n idx ci N : Nat} {ret : Option FieldType} {rm : Room} {T : u_T} {As : List Value} (C : CallFix p m c cc nL s args GW own) (hK : KK G s) (hX : XE G s s.heap) (hb : G.1 ≤ s.heap.size) (hP : HM G Sh M H) (hS : SS G s nx H locs) (hl : ls.size = nL)
    (hM : CtX l y bytes mL ret rm G Sh M (.ref a :: As) o1 M1) (hs : Sh a = some (.inl ci)) (hc : CLS ci y.cls T N) (hlink : Cond.methodLink own idx y ∈ GW) (hy : MOK y bytes mL ret n) (w2 : Cond.instanceMethod y ∈ GW) (w3 : Cond.selects y.cls y y ∈ GW) (hR : rm.frames + 1 ≤ R.frames ∧ 8 + (mL + 11) + rm.locals ≤ R.locals) (hf : cells + rm.cells ≤ R.cells ∧ slots + rm.slots ≤ R.slots)
    (hn : As.length = n) {st0 : List Value} (hst : st0 = As.reverse ++ .ref a :: rest) (hW : (rest.map fun v => v.category).sum ≤ 8) (hdg : decode cc pc = .ok (.invokevirtual idx, 3))
    (kx : ∀ (E : String) (ce : Cell) (q : Nat) (H1 : Heap) (locs1 : List Loc), o1 = .inl E → HM G Sh M1 H1 → va_S (AA G) s.heap H1 locs1 → H1[q]? = some ce → ce.vm = .none → s.vm.findClass E = some ce.cls → vx_W p l e R s m args below meth c H1 locs1 (cells + rm.cells) (slots + rm.slots) Q (F0 m pc ls rest) q)
    (kk : ∀ (v : Option Value) (H1 : Heap) (locs1 : List Loc), o1 = .inr v → HM G Sh M1 H1 → SS G s nx H1 locs1 → W p l e R s m args below meth c H1 locs1 (cells + rm.cells) (slots + rm.slots) Q (F0 m (pc + 3) ls (v.toList ++ rest))) : W p l e R s m args below meth c H locs cells slots Q (F0 m pc ls st0) := by
  subst hst
  exact r_runX (vx_runV (As := As) (rest := rest) C hM ⟨cb_of C hy hlink hR, C.2.2.2.2 _ w2, C.2.2.2.2 _ w3⟩ ⟨PG.blind, pg_recv hK hP hc hs, fun U hU hW => ⟨rfl, pg_at hK hX hP hS hb hU hW⟩⟩ rfl hn hl rfl (lv_room hW) hdg hf) hS kx kk
theorem r_SX {y : MethodName} {bytes : ByteArray} {mL n idx : Nat} {ret : Option FieldType} {rm : Room} {As : List Value} (C : CallFix p m c cc nL s args GW own) (hK : KK G s) (hX : XE G s s.heap) (hb : G.1 ≤ s.heap.size) (hP : HM G Sh M H) (hS : SS G s nx H locs) (hl : ls.size = nL)
    (hM : CtX l y bytes mL ret rm G Sh M As o1 M1) (hlink : Cond.methodLink own idx y ∈ GW) (hy : MOK y bytes mL ret n) (w2 : Cond.static y ∈ GW) (hR : rm.frames + 1 ≤ R.frames ∧ 8 + (mL + 11) + rm.locals ≤ R.locals) (hf : cells + rm.cells ≤ R.cells ∧ slots + rm.slots ≤ R.slots)
    (hn : As.length = n) {st0 : List Value} (hst : st0 = As.reverse ++ rest) (hW : (rest.map fun v => v.category).sum ≤ 8) (hdg : decode cc pc = .ok (.invokestatic idx, 3))
    (kx : ∀ (E : String) (ce : Cell) (q : Nat) (H1 : Heap) (locs1 : List Loc), o1 = .inl E → HM G Sh M1 H1 → va_S (AA G) s.heap H1 locs1 → H1[q]? = some ce → ce.vm = .none → s.vm.findClass E = some ce.cls → vx_W p l e R s m args below meth c H1 locs1 (cells + rm.cells) (slots + rm.slots) Q (F0 m pc ls rest) q)
    (kk : ∀ (v : Option Value) (H1 : Heap) (locs1 : List Loc), o1 = .inr v → HM G Sh M1 H1 → SS G s nx H1 locs1 → W p l e R s m args below meth c H1 locs1 (cells + rm.cells) (slots + rm.slots) Q (F0 m (pc + 3) ls (v.toList ++ rest))) : W p l e R s m args below meth c H locs cells slots Q (F0 m pc ls st0) := by
  subst hst
  exact r_runX (vx_runS (As := As) (rest := rest) C hM ⟨cb_of C hy hlink hR, C.2.2.2.2 _ w2⟩ ⟨PG.blind, fun U hU hW => ⟨rfl, pg_at hK hX hP hS hb hU hW⟩⟩ rfl hn hl rfl (lv_room hW) hdg hf) hS kx kk
/-- a void callee that may throw, in a method without a table: what goes on -/
theorem r_VX0 {y : MethodName} {bytes : ByteArray} {mL n idx ci N : Nat} {ret : Option FieldType} {rm : Room} {T : u_T} {As : List Value} {z : String ⊕ Unit} {o2 : String ⊕ Option Value} {M2 : Mm} {mc ms : Nat} (C : CallFix p m c cc nL s args GW own) (hno : ∀ x ∈ c.exceptionTable.toList, False) (hlk : meth.locks = false) (hK : KK G s) (hX : XE G s s.heap) (hb : G.1 ≤ s.heap.size) (hP : HM G Sh M H) (hS : SS G s nx H locs) (hl : ls.size = nL)
    (hM : CtX l y bytes mL ret rm G Sh M (.ref a :: As) (rsU z) M) (hs : Sh a = some (.inl ci)) (hc : CLS ci y.cls T N) (hlink : Cond.methodLink own idx y ∈ GW) (hy : MOK y bytes mL ret n) (w2 : Cond.instanceMethod y ∈ GW) (w3 : Cond.selects y.cls y y ∈ GW) (hR : rm.frames + 1 ≤ R.frames ∧ 8 + (mL + 11) + rm.locals ≤ R.locals) (hf : cells + rm.cells ≤ R.cells ∧ slots + rm.slots ≤ R.slots)
    (hn : As.length = n) {st0 : List Value} (hst : st0 = As.reverse ++ .ref a :: rest) (hW : (rest.map fun v => v.category).sum ≤ 8) (hdg : decode cc pc = .ok (.invokevirtual idx, 3)) {k1 k2 : Nat} (hk : cells + rm.cells ≤ k1 ∧ slots + rm.slots ≤ k2) (hmc : k1 ≤ mc ∧ k2 ≤ ms)
    (kx : ∀ E, z = .inl E → o2 = .inl E ∧ M2 = M)
    (kk : ∀ (H1 : Heap) (locs1 : List Loc), z = .inr () → HM G Sh M H1 → SS G s nx H1 locs1 → W p l e R s m args below meth c H1 locs1 k1 k2 (vx_MQ below (QX G Sh o2 M2) (XX G Sh o2 M2) args s mc ms (AA G)) (F0 m (pc + 3) ls rest)) : W p l e R s m args below meth c H locs cells slots (vx_MQ below (QX G Sh o2 M2) (XX G Sh o2 M2) args s mc ms (AA G)) (F0 m pc ls st0) := by
  refine r_VX C hK hX hb hP hS hl hM hs hc hlink hy w2 w3 hR hf hn hst hW hdg (fun E ce q H1 locs1 ho hP1 hS1 h1 h2 h3 => ?_) (fun v H1 locs1 ho hP1 hS1 => ?_)
  · obtain ⟨e1, e2⟩ := kx E (by cases z with
      | inl E' => exact congrArg Sum.inl (Sum.inl.inj ho)
      | inr u => cases ho)
    subst e2
    exact x_out hno hlk hP1 hS1 h1 h2 h3 e1 (Nat.le_trans hk.1 hmc.1) (Nat.le_trans hk.2 hmc.2)
  · cases z with
    | inl E' => cases ho
    | inr u =>
      cases ho
      exact W.widen hk.1 hk.2 (kk H1 locs1 rfl hP1 hS1)
theorem r_SX0 {y : MethodName} {bytes : ByteArray} {mL n idx : Nat} {ret : Option FieldType} {rm : Room} {As : List Value} {z : String ⊕ Unit} {o2 : String ⊕ Option Value} {M2 : Mm} {mc ms : Nat} (C : CallFix p m c cc nL s args GW own) (hno : ∀ x ∈ c.exceptionTable.toList, False) (hlk : meth.locks = false) (hK : KK G s) (hX : XE G s s.heap) (hb : G.1 ≤ s.heap.size) (hP : HM G Sh M H) (hS : SS G s nx H locs) (hl : ls.size = nL)
    (hM : CtX l y bytes mL ret rm G Sh M As (rsU z) M) (hlink : Cond.methodLink own idx y ∈ GW) (hy : MOK y bytes mL ret n) (w2 : Cond.static y ∈ GW) (hR : rm.frames + 1 ≤ R.frames ∧ 8 + (mL + 11) + rm.locals ≤ R.locals) (hf : cells + rm.cells ≤ R.cells ∧ slots + rm.slots ≤ R.slots)
    (hn : As.length = n) {st0 : List Value} (hst : st0 = As.reverse ++ rest) (hW : (rest.map fun v => v.category).sum ≤ 8) (hdg : decode cc pc = .ok (.invokestatic idx, 3)) {k1 k2 : Nat} (hk : cells + rm.cells ≤ k1 ∧ slots + rm.slots ≤ k2) (hmc : k1 ≤ mc ∧ k2 ≤ ms)
    (kx : ∀ E, z = .inl E → o2 = .inl E ∧ M2 = M)
    (kk : ∀ (H1 : Heap) (locs1 : List Loc), z = .inr () → HM G Sh M H1 → SS G s nx H1 locs1 → W p l e R s m args below meth c H1 locs1 k1 k2 (vx_MQ below (QX G Sh o2 M2) (XX G Sh o2 M2) args s mc ms (AA G)) (F0 m (pc + 3) ls rest)) : W p l e R s m args below meth c H locs cells slots (vx_MQ below (QX G Sh o2 M2) (XX G Sh o2 M2) args s mc ms (AA G)) (F0 m pc ls st0) := by
  refine r_SX C hK hX hb hP hS hl hM hlink hy w2 hR hf hn hst hW hdg (fun E ce q H1 locs1 ho hP1 hS1 h1 h2 h3 => ?_) (fun v H1 locs1 ho hP1 hS1 => ?_)
  · obtain ⟨e1, e2⟩ := kx E (by cases z with
      | inl E' => exact congrArg Sum.inl (Sum.inl.inj ho)
      | inr u => cases ho)
    subst e2
    exact x_out hno hlk hP1 hS1 h1 h2 h3 e1 (Nat.le_trans hk.1 hmc.1) (Nat.le_trans hk.2 hmc.2)
  · cases z with
    | inl E' => cases ho
    | inr u =>
      cases ho
      exact W.widen hk.1 hk.2 (kk H1 locs1 rfl hP1 hS1)
end CORE5
