/-! ===== CORE 8: the law's wrappers: what is thrown is caught ===== -/
def ncL : List (String × String) := [("java/lang/IllegalArgumentException", "java/lang/IndexOutOfBoundsException"), ("java/lang/IllegalStateException", "java/lang/IndexOutOfBoundsException"), ("java/lang/IndexOutOfBoundsException", "java/lang/IllegalArgumentException"), ("java/lang/IllegalStateException", "java/lang/IllegalArgumentException"), ("java/lang/IndexOutOfBoundsException", "java/lang/IllegalStateException"), ("java/lang/IllegalArgumentException", "java/lang/IllegalStateException")]
def NC (U : State) : Prop := ∀ q ∈ ncL, va_Nc q.1 q.2 U
def QW (G : Gt) (Sh : Sp) (M1 : Mm) (rv : Option Value) : Array Value → State → Outcome → State → Prop := fun _ st o t => o = .returned rv ∧ HM G Sh M1 t.heap ∧ va_F (AA G) st t
def NX : String → State → State → Prop := fun _ _ _ => False
/-- a wrapper's contract: it returns; the heap may have grown -/
def CtW (l : Launch) (y : MethodName) (bytes : ByteArray) (mL : Nat) (hh : List (Nat × Nat × Nat × Nat)) (rm : Room) (G : Gt) (Sh : Sp) (M : Mm) (avs : List Value) (rv : Option Value) (M1 : Mm) : Prop :=
  vx_Met l y (Cond.codeWith y bytes mL (some .int) hh :: GW) rm (va_Pc avs (fun U => PG G Sh M U ∧ NC U)) (QW G Sh M1 rv) NX rm.cells rm.slots (AA G)
theorem NC.moved {u U : State} (hvm : u.vm.Alike U.vm) (h : NC u) : NC U := fun q hq => (h q hq).moved hvm
theorem PG.blindW {G : Gt} {Sh : Sp} {M : Mm} {avs : List Value} : FrameBlind (va_Pc avs (fun U => PG G Sh M U ∧ NC U)) := fun _ _ _ _ q => ⟨q.1, ⟨q.2.1.1, KK.moved (Vm.Alike.refl _) q.2.1.2.1, XE.same q.2.1.2.2.1 rfl, q.2.1.2.2.2⟩, NC.moved (Vm.Alike.refl _) q.2.2⟩
theorem CtW.of {l : Launch} {y : MethodName} {bytes : ByteArray} {mL : Nat} {hh : List (Nat × Nat × Nat × Nat)} {rm : Room} {G : Gt} {Sh : Sp} {M : Mm} {avs : List Value} {rv : Option Value} {M1 : Mm} (hy : plainName y.cls = true) (hlen : (lg_sl avs).length ≤ mL)
    (body : ∀ (p : Program) (e : Env) (s : State) (m : MethodId) (args : Array Value) (below : List Frame) (meth : Method) (c : Code) (ls : Array Slot), CallFix p m c bytes mL s args GW y.cls → KK G s → XE G s s.heap → NC s → HM G Sh M s.heap → SS G s s.heap.size s.heap [] → G.1 ≤ s.heap.size → meth.locks = false → meth.sig.returnType = some .int → c.exceptionTable.toList = tableOf hh → lv_has ls mL (lv_args 0 avs) →
      W p l e rm s m args below meth c s.heap [] 0 0 (vx_MQ below (QW G Sh M1 rv) NX args s rm.cells rm.slots (AA G)) (F0 m 0 ls [])) : CtW l y bytes mL hh rm G Sh M avs rv M1 := by
  refine vx_ofWH (cc := bytes) (maxL := mL) (ret := some .int) (hh := hh) hy rfl ?_
  intro p e s m args below meth c s₁ B hml hv
  obtain ⟨rfl, ⟨hP, hK, hX, hsz⟩, hN⟩ := hv
  have hall := atoms_spec (ws := Cond.codeWith y bytes mL (some .int) hh :: GW) B.pre
  have hts : ∀ w ∈ GW, w.before avs.toArray s = true := fun w hw => hall w (List.mem_cons_of_mem _ hw)
  have hown : s.vm.findClass y.cls = some m.cls := findClass_of_methodNamed B.named
  have hl := lv_entry avs hlen
  rw [lg_entry_eq]
  exact body p e s m avs.toArray below meth c _ ⟨B.exec, B.bytes, hml, hown, hts⟩ hK hX hN hP ⟨va_S.rf, rfl⟩ hsz B.notSynchronized B.returns (vx_table (x := y) B (hall _ List.mem_cons_self)) hl
/-- which handler takes it -/
def wx (E : String) (M : Mm) : List (String × Int32) → Option (Int32 × Mm)
  | [] => none
  | q :: t => if q.1 = E then some (q.2, M) else wx E M t
def wb (x : Option ((String ⊕ Int32) × Mm)) (hs : List (String × Int32)) (K : Int32 → Mm → Option (Int32 × Mm)) : Option (Int32 × Mm) := match x with
  | none => none
  | some (.inl E, M) => wx E M hs
  | some (.inr v, M) => K v M
theorem wb_some {x : Option ((String ⊕ Int32) × Mm)} {hs : List (String × Int32)} {K : Int32 → Mm → Option (Int32 × Mm)} {r : Int32 × Mm} (h : wb x hs K = some r) : ∃ z, x = some z ∧ (∀ E, z.1 = .inl E → wx E z.2 hs = some r) ∧ (∀ v, z.1 = .inr v → K v z.2 = some r) := by
  unfold wb at h
  match x, h with
  | none, h => cases h
  | some (.inl E, M), h => exact ⟨_, rfl, (fun E' q => by cases q; exact h), (fun v q => by cases q)⟩
  | some (.inr u, M), h => exact ⟨_, rfl, (fun E' q => by cases q), (fun v q => by cases q; exact h)⟩
theorem mS2 {α β : Type} {x : Option α} {g : α → β} {z : β} (h : x.map g = some z) : ∃ v, x = some v ∧ z = g v := by
  cases x with
  | none => cases h
  | some v => exact ⟨v, rfl, (Option.some.inj h).symm⟩
section CORE8
variable {p : Program} {l : Launch} {e : Env} {R : Room} {s : State} {m : MethodId} {args : Array Value} {below : List Frame} {meth : Method} {c : Code} {H : Heap} {locs : List Loc} {cells slots : Nat} {Q : State → Prop}
variable {cc : ByteArray} {nL pc nx : Nat} {ls : Array Slot} {rest : List Value} {own : String} {G : Gt} {Sh : Sp} {M M1 : Mm} {a : Nat} {ρ : Type} {r0 : ρ} {v : Value} {rv : Option Value}
theorem w_ret (C : CallFix p m c cc nL s args GW own) (hlk : meth.locks = false) (hP : HM G Sh M H) (hS : va_S (AA G) s.heap H locs) {v : Int32} {r : Int32 × Mm} (hr : meth.sig.returnType = some .int) (er : (v, M) = r) (hdg : decode cc pc = .ok (.ireturn, 1)) :
    W p l e R s m args below meth c H locs cells slots (vx_MQ below (QW G Sh r.2 (some (.int r.1))) NX args s cells slots (AA G)) (F0 m pc ls [.int v]) := by
  subst er
  exact vx_ret (W.iret (Qc := QW G Sh M (some (.int v))) (free := AA G) C.1 C.2.1 hr (fun t ht _ => ⟨rfl, by rw [ht]; exact hP, hS.F ht⟩) (fun q hq => hS.2.2 q hq) hdg (hlocks := hlk))
/-- what a wrapper's caller goes on with -/
theorem r_W {y : MethodName} {bytes : ByteArray} {mL n idx : Nat} {hh : List (Nat × Nat × Nat × Nat)} {rm : Room} {As : List Value} (C : CallFix p m c cc nL s args GW own) (hK : KK G s) (hX : XE G s s.heap) (hN : NC s) (hb : G.1 ≤ s.heap.size) (hP : HM G Sh M H) (hS : va_S (AA G) s.heap H locs) (hl : ls.size = nL)
    (hM : CtW l y bytes mL hh rm G Sh M As (some v) M1) (hlink : Cond.methodLink own idx y ∈ GW) (hcw : Cond.codeWith y bytes mL (some .int) hh ∈ GW) (hini : Cond.initialized y.cls ∈ GW) (hy : y.cls ≠ "java/lang/invoke/MethodHandle" ∧ y.cls ≠ "java/lang/invoke/VarHandle" ∧ (parseMethodDescriptor y.desc).map (fun d => d.parameters.length) = some n) (w2 : Cond.static y ∈ GW) (hR : rm.frames + 1 ≤ R.frames ∧ 8 + (mL + 11) + rm.locals ≤ R.locals) {k1 k2 : Nat} (hk : cells + rm.cells ≤ k1 ∧ slots + rm.slots ≤ k2) (hRR : k1 ≤ R.cells ∧ k2 ≤ R.slots)
    (hn : As.length = n) {st0 : List Value} (hst : st0 = As.reverse ++ rest) (hW : (rest.map fun v => v.category).sum ≤ 8) (hdg : decode cc pc = .ok (.invokestatic idx, 3))
    (kk : ∀ (H1 : Heap) (locs1 : List Loc), HM G Sh M1 H1 → va_S (AA G) s.heap H1 locs1 → W p l e R s m args below meth c H1 locs1 k1 k2 Q (F0 m (pc + 3) ls (v :: rest))) : W p l e R s m args below meth c H locs cells slots Q (F0 m pc ls st0) := by
  subst hst
  have hg : GoodIn GW (va_wsS own idx y (Cond.codeWith y bytes mL (some .int) hh :: GW)) := gw_in (fun w hw => by
    simp only [va_wsS, List.cons_append, List.nil_append, List.mem_cons] at hw
    rcases hw with rfl | rfl | rfl | rfl | hw
    · exact hlink
    · exact w2
    · exact hini
    · exact hcw
    · exact hw)
  have hr : vx_Run p l e R s m args below meth c H locs cells slots rm.cells rm.slots (F0 m pc ls (As.reverse ++ rest)) rest (QW G Sh M1 (some v) As.toArray) NX (AA G) := vx_runSX (hh := hh) (As := As) (rest := rest) C hM (vx_cwSW n C.2.2.2.2 hg rfl rfl rfl hy hR) ⟨PG.blindW, fun U hU hW => ⟨rfl, ⟨by rw [hU]; exact hP, hK.moved hW.alike, by rw [hU]; exact hX.warm hW (fun q h1 h2 => hS.2.1 q h1 h2), by rw [hU]; exact Nat.le_trans hb hS.1⟩, hN.moved hW.alike⟩⟩ (g := F0 m pc ls (As.reverse ++ rest)) rfl hn hl rfl (lv_room hW) hdg ⟨Nat.le_trans hk.1 hRR.1, Nat.le_trans hk.2 hRR.2⟩
  intro T hT X
  rcases hr T hT X with ⟨v', st₀, t, T', L, h0, X', hL, e1, e2, ⟨hv, hP1, hF⟩, st⟩ | ⟨q, st₀, t, T', L, E, ce, h0, X', hL, e1, e2, hf, -⟩
  · cases hv
    rw [va_F, h0] at hF
    obtain ⟨t2, a1, b1⟩ := W.widen hk.1 hk.2 (kk T'.heap (locs ++ L) (by rw [e1]; exact hP1) ⟨Nat.le_trans hS.1 (by rw [e1]; exact hF.1), fun q h1 h2 => by rw [e1, hF.2 q (Nat.lt_of_lt_of_le h1 hS.1) h2]; exact hS.2.1 q h1 h2, fun q hq => by
      rcases List.mem_append.mp hq with h | h
      · exact hS.2.2 q h
      · exact hL q h⟩) T' rfl X'
    exact ⟨t2, st t2 a1, b1⟩
  · exact hf.elim
end CORE8
