/-! ===== CORE 3: contracts, calls, ends ===== -/
def lenS : List Nat := [6, 4, 5, 4, 6, 5, 6, 0, 8]
def bytS : List (List Int32) := [[98, 117, 116, 116, 111, 110], [108, 105, 110, 107], [105, 109, 97, 103, 101], [101, 100, 105, 116], [100, 105, 97, 108, 111, 103], [116, 97, 98, 108, 101], [104, 101, 97, 100, 101, 114], [], [100, 105, 115, 97, 98, 108, 101, 100]]
/-- the texts that SpokenTree$Tree loads: pool number, text, in the order of lenS -/
def strT : List (Nat × String) := [(159, "button"), (161, "link"), (163, "image"), (165, "edit"), (167, "dialog"), (169, "table"), (171, "header"), (173, ""), (157, "disabled")]
/-- the texts of SpokenTree's exceptions -/
def excT : List (Nat × String) := [(337, "no such node"), (73, "no such position"), (80, "no such role"), (89, "no node is free"), (103, "the root stays"), (120, "the node cannot go there"), (341, "no such thing"), (144, "no such value"), (146, "the root is never hidden"), (161, "the node has no text of its own"), (177, "a node does not label itself"), (206, "the node cannot have the focus"), (339, "the node is no dialog"), (221, "the dialog is open"), (229, "the dialog is closed"), (282, "the node is no cell of a row of a table"), (292, "there is no cell to read"), (294, "no such character"), (296, "the buffer is full"), (304, "there is no record")]
def XE (G : Gt) (U : State) (H : Heap) : Prop :=
  vx_Zq Bundle.tN "UNASSIGNED_STACK" Bundle.steD (AA G) U H ∧ vx_Zq Bundle.tN "SUPPRESSED_SENTINEL" Bundle.listD (AA G) U H ∧
  va_Z "java/lang/String" "COMPACT_STRINGS" "Z" (.int 1) (AA G) U H ∧ va_Zq "jdk/internal/util/Preconditions" "SIOOBE_FORMATTER" "Ljava/util/function/BiFunction;" (AA G) U H ∧
  vk_S 9 lenS bytS G.2.2.2.1 G.2.2.2.2 (AA G) U H ∧ (∀ (i : Nat) (q : Nat × String), strT[i]? = some q → vk_R RX4 q.1 q.2 (G.2.2.2.1 i) U) ∧ (∀ q ∈ excT, ∃ sa, vk_R RX6 q.1 q.2 sa U) ∧ (∀ w ∈ NW, va_Nw w U) ∧ va_AO "SpokenTree$Words" U ∧ va_AO "SpokenTree$Scene" U
theorem XE.nws {G : Gt} {s : State} {H : Heap} (h : XE G s H) {w : Cond} (hw : w ∈ NW) : va_Nw w s := h.2.2.2.2.2.2.2.1 w hw
theorem XE.nw {G : Gt} {s : State} {H : Heap} (h : XE G s H) {w : Cond} (hw : w ∈ NW) {args : Array Value} : w.before args s = true := va_Nw.use (nw_tab (List.mem_filter.mp hw).2) (h.nws hw)
theorem XE.warm {G : Gt} {s U : State} {H H1 : Heap} (h : XE G s H) (hW : s.WarmedH U.vm) (hq : ∀ a : Nat, a < H.size → ¬ AA G a → H1[a]? = H[a]?) : XE G U H1 := by
  obtain ⟨h1, h2, h3, h4, h5, h6, h7, h8, h9, h10⟩ := h
  exact ⟨(h1.moved hW.alike).kept hq, (h2.moved hW.alike).kept hq, (va_Z.moved hW.alike h3).kept hq, (va_Zq.moved hW.alike h4).kept hq, (vk_S.moved hW.alike h5).kept hq, fun i q hi => (h6 i q hi).warm hW, fun q hq => by obtain ⟨sa, k⟩ := h7 q hq; exact ⟨sa, k.warm hW⟩, fun w hw => nw_warm (List.mem_filter.mp hw).2 hW (h8 w hw), h9.moved hW.alike, h10.moved hW.alike⟩
theorem XE.same {G : Gt} {s U : State} {H : Heap} (h : XE G s H) (hv : U.vm = s.vm) : XE G U H := by
  obtain ⟨h1, h2, h3, h4, h5, h6, h7, h8, h9, h10⟩ := h
  have hA : s.vm.Alike U.vm := by rw [hv]; exact Vm.Alike.refl _
  exact ⟨h1.moved hA, h2.moved hA, va_Z.moved hA h3, va_Zq.moved hA h4, vk_S.moved hA h5, fun i q hi => (h6 i q hi).same hv, fun q hq => by obtain ⟨sa, k⟩ := h7 q hq; exact ⟨sa, k.same hv⟩, fun w hw => va_Nw.same (nw_tab (List.mem_filter.mp hw).2) hv.symm (h8 w hw), h9.moved hA, h10.moved hA⟩
theorem KK.moved {G : Gt} {u U : State} (hvm : u.vm.Alike U.vm) (h : KK G u) : KK G U := va_K.moved hvm h
def PG (G : Gt) (Sh : Sp) (M : Mm) : State → Prop := fun U => HM G Sh M U.heap ∧ KK G U ∧ XE G U U.heap ∧ G.1 ≤ U.heap.size
def QG (G : Gt) (Sh : Sp) (M1 : Mm) (rv : Option Value) : Array Value → State → Outcome → State → Prop := fun _ st o t => o = .returned rv ∧ HM G Sh M1 t.heap ∧ va_F (AA G) st t ∧ t.heap.size = st.heap.size
/-- a contract: from any heap that holds the memory M the method returns rv, and the heap holds M1 -/
def Ct (l : Launch) (y : MethodName) (bytes : ByteArray) (mL : Nat) (ret : Option FieldType) (rm : Room) (G : Gt) (Sh : Sp) (M : Mm) (avs : List Value) (rv : Option Value) (M1 : Mm) : Prop :=
  Met l y (Cond.code y bytes mL ret :: GW) rm (va_Pc avs (PG G Sh M)) (QG G Sh M1 rv) rm.cells rm.slots (AA G)
theorem PG.blind {G : Gt} {Sh : Sp} {M : Mm} {avs : List Value} : FrameBlind (va_Pc avs (PG G Sh M)) := fun _ _ _ _ q => ⟨q.1, q.2.1, KK.moved (Vm.Alike.refl _) q.2.2.1, XE.same q.2.2.2.1 rfl, q.2.2.2.2⟩
theorem Ct.of {l : Launch} {y : MethodName} {bytes : ByteArray} {mL : Nat} {ret : Option FieldType} {rm : Room} {G : Gt} {Sh : Sp} {M : Mm} {avs : List Value} {rv : Option Value} {M1 : Mm} (hy : plainName y.cls = true) (hlen : (lg_sl avs).length ≤ mL)
    (body : ∀ (p : Program) (e : Env) (s : State) (m : MethodId) (args : Array Value) (below : List Frame) (meth : Method) (c : Code) (ls : Array Slot), CallFix p m c bytes mL s args GW y.cls → KK G s → XE G s s.heap → HM G Sh M s.heap → SS G s s.heap.size s.heap [] → G.1 ≤ s.heap.size → meth.locks = false → meth.sig.returnType = ret → lv_has ls mL (lv_args 0 avs) →
      W p l e rm s m args below meth c s.heap [] 0 0 (MQ below (QG G Sh M1 rv) args s rm.cells rm.slots (AA G)) (F0 m 0 ls [])) : Ct l y bytes mL ret rm G Sh M avs rv M1 := by
  refine Met.ofW (cc := bytes) (maxL := mL) (ret := ret) hy rfl ?_
  intro p e s m args below meth c s₁ B hml hv
  obtain ⟨rfl, hP, hK, hX, hsz⟩ := hv
  have hts : ∀ w ∈ GW, w.before avs.toArray s = true := fun w hw => atoms_spec (ws := Cond.code y bytes mL ret :: GW) B.pre w (List.mem_cons_of_mem _ hw)
  have hown : s.vm.findClass y.cls = some m.cls := findClass_of_methodNamed B.named
  have hl := lv_entry avs hlen
  rw [lg_entry_eq]
  exact body p e s m avs.toArray below meth c _ ⟨B.exec, B.bytes, hml, hown, hts⟩ hK hX hP ⟨va_S.rf, rfl⟩ hsz B.notSynchronized B.returns hl
section CORE3
variable {p : Program} {l : Launch} {e : Env} {R : Room} {s : State} {m : MethodId} {args : Array Value} {below : List Frame} {meth : Method} {c : Code} {H : Heap} {locs : List Loc} {cells slots : Nat} {Q : State → Prop}
variable {cc : ByteArray} {nL pc nx : Nat} {ls : Array Slot} {rest : List Value} {own : String} {G : Gt} {Sh : Sp} {M M1 : Mm} {a : Nat} {ρ : Type} {r0 : ρ} {rv : Option Value}
-- ends
theorem q_i (C : CallFix p m c cc nL s args GW own) (hlk : meth.locks = false) (hP : HM G Sh M H) (hS : SS G s s.heap.size H locs) {v : Int32} (hr : meth.sig.returnType = some .int) (e1 : rv = some (.int v)) (e2 : M1 = M) (hdg : decode cc pc = .ok (.ireturn, 1)) :
    W p l e R s m args below meth c H locs cells slots (MQ below (QG G Sh M1 rv) args s cells slots (AA G)) (F0 m pc ls [.int v]) := by
  subst e1 e2
  exact W.iret (Qc := QG G Sh M1 (some (.int v))) (free := AA G) C.1 C.2.1 hr (fun t ht _ => ⟨rfl, by rw [ht]; exact hP, hS.1.F ht, by rw [ht]; exact hS.2⟩) (fun q hq => hS.1.2.2 q hq) hdg (hlocks := hlk)
theorem q_z (C : CallFix p m c cc nL s args GW own) (hlk : meth.locks = false) (hP : HM G Sh M H) (hS : SS G s s.heap.size H locs) {v : Int32} (hr : meth.sig.returnType = some .boolean) (hn : v = 0 ∨ v = 1) (e1 : rv = some (.int v)) (e2 : M1 = M) (hdg : decode cc pc = .ok (.ireturn, 1)) :
    W p l e R s m args below meth c H locs cells slots (MQ below (QG G Sh M1 rv) args s cells slots (AA G)) (F0 m pc ls [.int v]) := by
  subst e1 e2
  exact W.zret (Qc := QG G Sh M1 (some (.int v))) (free := AA G) C.1 C.2.1 hr (by rcases hn with rfl | rfl <;> rfl) (fun t ht _ => ⟨rfl, by rw [ht]; exact hP, hS.1.F ht, by rw [ht]; exact hS.2⟩) (fun q hq => hS.1.2.2 q hq) hdg (hlocks := hlk)
theorem q_l (C : CallFix p m c cc nL s args GW own) (hlk : meth.locks = false) (hP : HM G Sh M H) (hS : SS G s s.heap.size H locs) {v : Int64} (hr : meth.sig.returnType = some .long) (e1 : rv = some (.long v)) (e2 : M1 = M) (hdg : decode cc pc = .ok (.lreturn, 1)) :
    W p l e R s m args below meth c H locs cells slots (MQ below (QG G Sh M1 rv) args s cells slots (AA G)) (F0 m pc ls [.long v]) := by
  subst e1 e2
  exact W.lret (Qc := QG G Sh M1 (some (.long v))) (free := AA G) C.1 C.2.1 hr (fun t ht _ => ⟨rfl, by rw [ht]; exact hP, hS.1.F ht, by rw [ht]; exact hS.2⟩) (fun q hq => hS.1.2.2 q hq) hdg (hlocks := hlk)
theorem q_v (C : CallFix p m c cc nL s args GW own) (hlk : meth.locks = false) (hP : HM G Sh M H) (hS : SS G s s.heap.size H locs) (hr : meth.sig.returnType = none) (e1 : rv = none) (e2 : M1 = M) (hdg : decode cc pc = .ok (.return_, 1)) :
    W p l e R s m args below meth c H locs cells slots (MQ below (QG G Sh M1 rv) args s cells slots (AA G)) (F0 m pc ls []) := by
  subst e1 e2
  exact W.vret (Qc := QG G Sh M1 none) (free := AA G) C.1 C.2.1 hr (fun t ht _ => ⟨rfl, by rw [ht]; exact hP, hS.1.F ht, by rw [ht]; exact hS.2⟩) (fun q hq => hS.1.2.2 q hq) hdg (hlocks := hlk)
theorem q_a (C : CallFix p m c cc nL s args GW own) (hlk : meth.locks = false) (hP : HM G Sh M H) (hS : SS G s s.heap.size H locs) {v : Nat} {cn : String} (hr : meth.sig.returnType = some (.object cn)) (e1 : rv = some (.ref v)) (e2 : M1 = M) (hdg : decode cc pc = .ok (.areturn, 1)) :
    W p l e R s m args below meth c H locs cells slots (MQ below (QG G Sh M1 rv) args s cells slots (AA G)) (F0 m pc ls [.ref v]) := by
  subst e1 e2
  exact W.aret (Qc := QG G Sh M1 (some (.ref v))) (free := AA G) C.1 C.2.1 hr (Or.inl ⟨_, rfl⟩) (Or.inr ⟨_, rfl⟩) (fun t ht _ => ⟨rfl, by rw [ht]; exact hP, hS.1.F ht, by rw [ht]; exact hS.2⟩) (fun q hq => hS.1.2.2 q hq) hdg (hlocks := hlk)
-- calls
theorem r_run {mc ms : Nat} {st0 : List Value} {av : Array Value} (hr : va_Run p l e R s m args below meth c H locs cells slots mc ms (F0 m pc ls st0) rest (QG G Sh M1 rv av) (AA G)) (hS : SS G s nx H locs)
    (kk : ∀ (H1 : Heap) (locs1 : List Loc), HM G Sh M1 H1 → SS G s nx H1 locs1 → W p l e R s m args below meth c H1 locs1 (cells + mc) (slots + ms) Q (F0 m (pc + 3) ls (rv.toList ++ rest))) : W p l e R s m args below meth c H locs cells slots Q (F0 m pc ls st0) := by
  intro T hT X
  obtain ⟨v, st₀, t, T', L, h0, X', hL, e1, e2, ⟨hv, hP1, hF, hz⟩, st⟩ := hr T hT X
  cases hv
  rw [va_F, h0] at hF
  rw [h0] at hz
  obtain ⟨t2, a1, b1⟩ := kk T'.heap (locs ++ L) (by rw [e1]; exact hP1) ⟨⟨Nat.le_trans hS.1.1 (by rw [e1]; exact hF.1), fun q h1 h2 => by rw [e1, hF.2 q (Nat.lt_of_lt_of_le h1 hS.1.1) h2]; exact hS.1.2.1 q h1 h2, fun q hq => by
      rcases List.mem_append.mp hq with h | h
      · exact hS.1.2.2 q h
      · exact hL q h⟩, by rw [e1, hz]; exact hS.2⟩ T' rfl X'
  exact ⟨t2, st t2 a1, b1⟩
/-- what a callee starts from -/
theorem pg_at {U : State} (hK : KK G s) (hX : XE G s s.heap) (hP : HM G Sh M H) (hS : SS G s nx H locs) (hbase : G.1 ≤ s.heap.size) (hU : U.heap = H) (hW : s.WarmedH U.vm) : PG G Sh M U := by
  refine ⟨by rw [hU]; exact hP, hK.moved hW.alike, ?_, by rw [hU]; exact Nat.le_trans hbase hS.1.1⟩
  rw [hU]
  exact hX.warm hW (fun q h1 h2 => hS.1.2.1 q h1 h2)
theorem pg_recv {ci N : Nat} {Cn : String} {T : u_T} (hK : KK G s) (hP : HM G Sh M H) (hc : CLS ci Cn T N) (hs : Sh a = some (.inl ci)) : ∃ cellB : Cell, H[a]? = some cellB ∧ cellB.vm.isStatics = false ∧ s.vm.findClass Cn = some cellB.cls := by
  obtain ⟨-, r, h1, cell, q1, q2, q3, q4⟩ := hP a _ hs
  exact ⟨cell, q1, by rw [q3]; rfl, by rw [q2]; exact (hK.1 ci _ hc.1).2.1⟩
theorem cb_of {y : MethodName} {bytes : ByteArray} {mL n idx : Nat} {ret : Option FieldType} {rm : Room} (C : CallFix p m c cc nL s args GW own) (hy : MOK y bytes mL ret n) (hlink : Cond.methodLink own idx y ∈ GW) (hR : rm.frames + 1 ≤ R.frames ∧ 8 + (mL + 11) + rm.locals ≤ R.locals) :
    CallB R s args own idx y bytes mL ret (Cond.code y bytes mL ret :: GW) rm rm.cells rm.slots n := by
  obtain ⟨h1, h2, h3, h4, h5⟩ := hy
  exact callB_of n C.2.2.2.2 (gw_in (fun w hw => (List.mem_cons.mp hw).elim (fun e => by rw [e]; exact h1) (fun h => h))) rfl rfl rfl (C.2.2.2.2 _ h2) (C.2.2.2.2 _ hlink) ⟨h3, h4, h5⟩ hR
theorem r_V {y : MethodName} {bytes : ByteArray} {mL n idx ci N : Nat} {ret : Option FieldType} {rm : Room} {T : u_T} {As : List Value} (C : CallFix p m c cc nL s args GW own) (hK : KK G s) (hX : XE G s s.heap) (hb : G.1 ≤ s.heap.size) (hP : HM G Sh M H) (hS : SS G s nx H locs) (hl : ls.size = nL)
    (hM : Ct l y bytes mL ret rm G Sh M (.ref a :: As) rv M1) (hs : Sh a = some (.inl ci)) (hc : CLS ci y.cls T N) (hlink : Cond.methodLink own idx y ∈ GW) (hy : MOK y bytes mL ret n) (w2 : Cond.instanceMethod y ∈ GW) (w3 : Cond.selects y.cls y y ∈ GW) (hR : rm.frames + 1 ≤ R.frames ∧ 8 + (mL + 11) + rm.locals ≤ R.locals) (hf : cells + rm.cells ≤ R.cells ∧ slots + rm.slots ≤ R.slots)
    (hn : As.length = n) {st0 : List Value} (hst : st0 = As.reverse ++ .ref a :: rest) (hW : (rest.map fun v => v.category).sum ≤ 8) (hdg : decode cc pc = .ok (.invokevirtual idx, 3))
    (kk : ∀ (H1 : Heap) (locs1 : List Loc), HM G Sh M1 H1 → SS G s nx H1 locs1 → W p l e R s m args below meth c H1 locs1 (cells + rm.cells) (slots + rm.slots) Q (F0 m (pc + 3) ls (rv.toList ++ rest))) : W p l e R s m args below meth c H locs cells slots Q (F0 m pc ls st0) := by
  subst hst
  exact r_run (va_runV (As := As) (rest := rest) C hM ⟨cb_of C hy hlink hR, C.2.2.2.2 _ w2, C.2.2.2.2 _ w3⟩ ⟨PG.blind, pg_recv hK hP hc hs, fun U hU hW => ⟨rfl, pg_at hK hX hP hS hb hU hW⟩⟩ rfl hn hl rfl (lv_room hW) hdg hf) hS kk
theorem r_S {y : MethodName} {bytes : ByteArray} {mL n idx : Nat} {ret : Option FieldType} {rm : Room} {As : List Value} (C : CallFix p m c cc nL s args GW own) (hK : KK G s) (hX : XE G s s.heap) (hb : G.1 ≤ s.heap.size) (hP : HM G Sh M H) (hS : SS G s nx H locs) (hl : ls.size = nL)
    (hM : Ct l y bytes mL ret rm G Sh M As rv M1) (hlink : Cond.methodLink own idx y ∈ GW) (hy : MOK y bytes mL ret n) (w2 : Cond.static y ∈ GW) (hR : rm.frames + 1 ≤ R.frames ∧ 8 + (mL + 11) + rm.locals ≤ R.locals) (hf : cells + rm.cells ≤ R.cells ∧ slots + rm.slots ≤ R.slots)
    (hn : As.length = n) {st0 : List Value} (hst : st0 = As.reverse ++ rest) (hW : (rest.map fun v => v.category).sum ≤ 8) (hdg : decode cc pc = .ok (.invokestatic idx, 3))
    (kk : ∀ (H1 : Heap) (locs1 : List Loc), HM G Sh M1 H1 → SS G s nx H1 locs1 → W p l e R s m args below meth c H1 locs1 (cells + rm.cells) (slots + rm.slots) Q (F0 m (pc + 3) ls (rv.toList ++ rest))) : W p l e R s m args below meth c H locs cells slots Q (F0 m pc ls st0) := by
  subst hst
  exact r_run (va_runS (As := As) (rest := rest) C hM ⟨cb_of C hy hlink hR, C.2.2.2.2 _ w2⟩ ⟨PG.blind, fun U hU hW => ⟨rfl, pg_at hK hX hP hS hb hU hW⟩⟩ rfl hn hl rfl (lv_room hW) hdg hf) hS kk
theorem r_SN {y : MethodName} {host : String} {bytes : ByteArray} {mL n idx : Nat} {ret : Option FieldType} {rm : Room} {As : List Value} (C : CallFix p m c cc nL s args GW own) (hK : KK G s) (hX : XE G s s.heap) (hb : G.1 ≤ s.heap.size) (hP : HM G Sh M H) (hS : SS G s nx H locs) (hl : ls.size = nL)
    (hM : Ct l y bytes mL ret rm G Sh M As rv M1) (hlink : va_Nw (.methodLinkNest own idx y host) s) (hy : MOK y bytes mL ret n) (w2 : Cond.static y ∈ GW) (hR : rm.frames + 1 ≤ R.frames ∧ 8 + (mL + 11) + rm.locals ≤ R.locals) (hf : cells + rm.cells ≤ R.cells ∧ slots + rm.slots ≤ R.slots)
    (hn : As.length = n) {st0 : List Value} (hst : st0 = As.reverse ++ rest) (hW : (rest.map fun v => v.category).sum ≤ 8) (hdg : decode cc pc = .ok (.invokestatic idx, 3))
    (kk : ∀ (H1 : Heap) (locs1 : List Loc), HM G Sh M1 H1 → SS G s nx H1 locs1 → W p l e R s m args below meth c H1 locs1 (cells + rm.cells) (slots + rm.slots) Q (F0 m (pc + 3) ls (rv.toList ++ rest))) : W p l e R s m args below meth c H locs cells slots Q (F0 m pc ls st0) := by
  subst hst
  obtain ⟨h1, h2, h3, h4, h5⟩ := hy
  exact r_run (va_runSN (As := As) (rest := rest) C hM ⟨va_cnB n C.2.2.2.2 (gw_in (fun w hw => (List.mem_cons.mp hw).elim (fun e => by rw [e]; exact h1) (fun h => h))) rfl rfl rfl hlink (C.2.2.2.2 _ h2) ⟨h3, h4, h5⟩ hR, C.2.2.2.2 _ w2, trivial⟩ ⟨PG.blind, fun U hU hW => ⟨rfl, pg_at hK hX hP hS hb hU hW⟩⟩ rfl hn hl rfl (lv_room hW) hdg hf) hS kk
end CORE3
section CORE4
variable {p : Program} {l : Launch} {e : Env} {R : Room} {s : State} {m : MethodId} {args : Array Value} {below : List Frame} {meth : Method} {c : Code} {H : Heap} {locs : List Loc} {cells slots : Nat} {Q : State → Prop}
variable {cc : ByteArray} {nL pc nx : Nat} {ls : Array Slot} {rest : List Value} {own : String} {G : Gt} {Sh : Sp} {M M1 : Mm} {a : Nat} {ρ : Type} {r0 : ρ} {v : Value}
theorem itK_inl {σ ρ : Type} {n : Nat} {f : σ → Option (σ ⊕ ρ)} {t : σ} {r : ρ} (h : itK n f (.inl t) = some r) : iter n f t = some r := h
theorem itK_inr {σ ρ : Type} {n : Nat} {f : σ → Option (σ ⊕ ρ)} {w r : ρ} (h : itK n f (.inr w) = some r) : w = r := Option.some.inj h
theorem r_V1 {y : MethodName} {bytes : ByteArray} {mL n idx ci N : Nat} {ret : Option FieldType} {rm : Room} {T : u_T} {As : List Value} (C : CallFix p m c cc nL s args GW own) (hK : KK G s) (hX : XE G s s.heap) (hb : G.1 ≤ s.heap.size) (hP : HM G Sh M H) (hS : SS G s nx H locs) (hl : ls.size = nL)
    (hM : Ct l y bytes mL ret rm G Sh M (.ref a :: As) (some v) M1) (hs : Sh a = some (.inl ci)) (hc : CLS ci y.cls T N) (hlink : Cond.methodLink own idx y ∈ GW) (hy : MOK y bytes mL ret n) (w2 : Cond.instanceMethod y ∈ GW) (w3 : Cond.selects y.cls y y ∈ GW) (hR : rm.frames + 1 ≤ R.frames ∧ 8 + (mL + 11) + rm.locals ≤ R.locals) (hf : cells + rm.cells ≤ R.cells ∧ slots + rm.slots ≤ R.slots)
    (hn : As.length = n) {st0 : List Value} (hst : st0 = As.reverse ++ .ref a :: rest) (hW : (rest.map fun v => v.category).sum ≤ 8) (hdg : decode cc pc = .ok (.invokevirtual idx, 3))
    (kk : ∀ (H1 : Heap) (locs1 : List Loc), HM G Sh M1 H1 → SS G s nx H1 locs1 → W p l e R s m args below meth c H1 locs1 (cells + rm.cells) (slots + rm.slots) Q (F0 m (pc + 3) ls (v :: rest))) : W p l e R s m args below meth c H locs cells slots Q (F0 m pc ls st0) :=
  r_V C hK hX hb hP hS hl hM hs hc hlink hy w2 w3 hR hf hn hst hW hdg kk
theorem r_V0 {y : MethodName} {bytes : ByteArray} {mL n idx ci N : Nat} {ret : Option FieldType} {rm : Room} {T : u_T} {As : List Value} (C : CallFix p m c cc nL s args GW own) (hK : KK G s) (hX : XE G s s.heap) (hb : G.1 ≤ s.heap.size) (hP : HM G Sh M H) (hS : SS G s nx H locs) (hl : ls.size = nL)
    (hM : Ct l y bytes mL ret rm G Sh M (.ref a :: As) none M1) (hs : Sh a = some (.inl ci)) (hc : CLS ci y.cls T N) (hlink : Cond.methodLink own idx y ∈ GW) (hy : MOK y bytes mL ret n) (w2 : Cond.instanceMethod y ∈ GW) (w3 : Cond.selects y.cls y y ∈ GW) (hR : rm.frames + 1 ≤ R.frames ∧ 8 + (mL + 11) + rm.locals ≤ R.locals) (hf : cells + rm.cells ≤ R.cells ∧ slots + rm.slots ≤ R.slots)
    (hn : As.length = n) {st0 : List Value} (hst : st0 = As.reverse ++ .ref a :: rest) (hW : (rest.map fun v => v.category).sum ≤ 8) (hdg : decode cc pc = .ok (.invokevirtual idx, 3))
    (kk : ∀ (H1 : Heap) (locs1 : List Loc), HM G Sh M1 H1 → SS G s nx H1 locs1 → W p l e R s m args below meth c H1 locs1 (cells + rm.cells) (slots + rm.slots) Q (F0 m (pc + 3) ls rest)) : W p l e R s m args below meth c H locs cells slots Q (F0 m pc ls st0) :=
  r_V C hK hX hb hP hS hl hM hs hc hlink hy w2 w3 hR hf hn hst hW hdg kk
theorem r_S1 {y : MethodName} {bytes : ByteArray} {mL n idx : Nat} {ret : Option FieldType} {rm : Room} {As : List Value} (C : CallFix p m c cc nL s args GW own) (hK : KK G s) (hX : XE G s s.heap) (hb : G.1 ≤ s.heap.size) (hP : HM G Sh M H) (hS : SS G s nx H locs) (hl : ls.size = nL)
    (hM : Ct l y bytes mL ret rm G Sh M As (some v) M1) (hlink : Cond.methodLink own idx y ∈ GW) (hy : MOK y bytes mL ret n) (w2 : Cond.static y ∈ GW) (hR : rm.frames + 1 ≤ R.frames ∧ 8 + (mL + 11) + rm.locals ≤ R.locals) (hf : cells + rm.cells ≤ R.cells ∧ slots + rm.slots ≤ R.slots)
    (hn : As.length = n) {st0 : List Value} (hst : st0 = As.reverse ++ rest) (hW : (rest.map fun v => v.category).sum ≤ 8) (hdg : decode cc pc = .ok (.invokestatic idx, 3))
    (kk : ∀ (H1 : Heap) (locs1 : List Loc), HM G Sh M1 H1 → SS G s nx H1 locs1 → W p l e R s m args below meth c H1 locs1 (cells + rm.cells) (slots + rm.slots) Q (F0 m (pc + 3) ls (v :: rest))) : W p l e R s m args below meth c H locs cells slots Q (F0 m pc ls st0) :=
  r_S C hK hX hb hP hS hl hM hlink hy w2 hR hf hn hst hW hdg kk
theorem r_SN1 {y : MethodName} {host : String} {bytes : ByteArray} {mL n idx : Nat} {ret : Option FieldType} {rm : Room} {As : List Value} (C : CallFix p m c cc nL s args GW own) (hK : KK G s) (hX : XE G s s.heap) (hb : G.1 ≤ s.heap.size) (hP : HM G Sh M H) (hS : SS G s nx H locs) (hl : ls.size = nL)
    (hM : Ct l y bytes mL ret rm G Sh M As (some v) M1) (hlink : va_Nw (.methodLinkNest own idx y host) s) (hy : MOK y bytes mL ret n) (w2 : Cond.static y ∈ GW) (hR : rm.frames + 1 ≤ R.frames ∧ 8 + (mL + 11) + rm.locals ≤ R.locals) (hf : cells + rm.cells ≤ R.cells ∧ slots + rm.slots ≤ R.slots)
    (hn : As.length = n) {st0 : List Value} (hst : st0 = As.reverse ++ rest) (hW : (rest.map fun v => v.category).sum ≤ 8) (hdg : decode cc pc = .ok (.invokestatic idx, 3))
    (kk : ∀ (H1 : Heap) (locs1 : List Loc), HM G Sh M1 H1 → SS G s nx H1 locs1 → W p l e R s m args below meth c H1 locs1 (cells + rm.cells) (slots + rm.slots) Q (F0 m (pc + 3) ls (v :: rest))) : W p l e R s m args below meth c H locs cells slots Q (F0 m pc ls st0) :=
  r_SN C hK hX hb hP hS hl hM hlink hy w2 hR hf hn hst hW hdg kk
theorem r_cpy {a0 a1 ti idx : Nat} {sp dp n : Int32} (C : CallFix p m c cc nL s args GW own) (hK : KK G s) (hP : HM G Sh M H) (hS : SS G s nx H locs) (hml : ls.size = nL) (hti : ti = 0 ∨ ti = 1) (hlink : Cond.methodLink own idx arraycopyName ∈ GW) (hnat : Cond.native arraycopyName ∈ GW) (hstat : Cond.static arraycopyName ∈ GW) (hini : Cond.initialized "java/lang/System" ∈ GW)
    (hframes : 1 ≤ R.frames) (hlocals : (rest.map fun v => v.category).sum + 18 ≤ R.locals) (hdg : decode cc pc = .ok (.invokestatic idx, 3))
    {K : Mm → Option ρ} (h : aC Sh M ti a0 sp a1 dp n K = some r0) (kk : ∀ (M' : Mm) (H1 : Heap) (locs1 : List Loc), K M' = some r0 → HM G Sh M' H1 → SS G s nx H1 locs1 → W p l e R s m args below meth c H1 locs1 cells slots Q (F0 m (pc + 3) ls rest)) : W p l e R s m args below meth c H locs cells slots Q (F0 m pc ls (.int n :: .int dp :: .ref a1 :: .int sp :: .ref a0 :: rest)) := by
  obtain ⟨⟨n0, n1, hs0, hs1, h1, h2, h3, h4, h5⟩, h⟩ := chk_some h
  obtain ⟨hx, hb, hmx, hown, hts⟩ := C
  have nn : ∀ z : Int32, ¬ z < 0 → z.toInt = (z.toNatClampNeg : Int) := by
    intro z hz
    have hz0 : (0 : Int) ≤ z.toInt := by
      have := Int32.not_lt.mp hz
      simpa using Int32.le_iff_toInt_le.mp this
    show z.toInt = ((z.toInt.toNat : Nat) : Int)
    omega
  have h6 : ti < 6 := by rcases hti with rfl | rfl <;> decide
  have hkd : aKd ti = 0 := by rcases hti with rfl | rfl <;> rfl
  have hprim : refKind (aTy ti) = false := by rcases hti with rfl | rfl <;> rfl
  obtain ⟨hb0, hc0', -, hfit0⟩ := hP a0 _ hs0
  obtain ⟨hb1, hc1', -, hfit1⟩ := hP a1 _ hs1
  rw [hkd] at hc0' hc1'
  have hc0 : H[a0]? = some (vp_cell (G.2.2.1 ti) (n0, .inl (M.1 a0))) := hc0'
  have hc1 : H[a1]? = some (vp_cell (G.2.2.1 ti) (n1, .inl (M.1 a1))) := hc1'
  have hfit : ∀ i, i < n.toNatClampNeg → fits (aTy ti) (.int (M.1 a0 (sp.toNatClampNeg + i))) = true := by
    intro i _
    rcases hti with rfl | rfl
    · rfl
    · exact hfit0 rfl _
  intro T hT X
  obtain ⟨-, k0, hk0, cm0, hkk0⟩ := (hK.arr h6).1 n0 (fun j => .int (M.1 a0 j))
  obtain ⟨-, k1, hk1, cm1, hkk1⟩ := (hK.arr h6).1 n1 (fun j => .int (M.1 a1 j))
  obtain ⟨vm', X', step⟩ := X.arraycopy hx hown (hts _ hlink) (hts _ hnat) (hts _ hstat) (hts _ hini) (src := a0) (dst := a1) (cs := vp_cell (G.2.2.1 ti) (n0, .inl (M.1 a0))) (cd := vp_cell (G.2.2.1 ti) (n1, .inl (M.1 a1))) (srcPos := sp) (destPos := dp) (n := n) (by rw [hT]; exact hc0) (by rw [hT]; exact hc1)
    (fun _ h => by cases h) (fun _ h => by cases h) (fun h => by cases h) (fun h => by cases h) hk0 hk1 hkk0 hkk1 (by simp [hprim]) h1 h2 h3
    (by rw [nn sp h1, nn n h3]; show ¬ _ > ((arrV _ n0 (fun j => .int (M.1 a0 j))).slots.size : Int); rw [arrV_size]; omega)
    (by rw [nn dp h2, nn n h3]; show ¬ _ > ((arrV _ n1 (fun j => .int (M.1 a1 j))).slots.size : Int); rw [arrV_size]; omega)
    (fun vm₁ _ i hi => by
      have e : (vp_cell (G.2.2.1 ti) (n0, .inl (M.1 a0))).slots.getD (sp.toNatClampNeg + i) .null = .int (M.1 a0 (sp.toNatClampNeg + i)) := by
        show (arrV _ n0 (fun j => .int (M.1 a0 j))).slots.getD _ _ = _
        rw [Array.getD_eq_getD_getElem?, arrV_read _ _ (by omega)]
        rfl
      refine ⟨?_, ?_⟩
      · rw [e]
        exact hfit i hi
      · rw [e]
        exact trivial)
    (g := F0 m pc ls (.int n :: .int dp :: .ref a1 :: .int sp :: .ref a0 :: rest)) rfl (hml.trans hmx.symm) (rest := rest) rfl (by rw [hb]; exact hdg) hframes (by show 2 * 0 + _ + _ ≤ _; simpa [nativeFrameWords] using hlocals)
  have e1 : copied (vp_cell (G.2.2.1 ti) (n0, .inl (M.1 a0))) (vp_cell (G.2.2.1 ti) (n1, .inl (M.1 a1))) sp dp n = vp_cell (G.2.2.1 ti) (n1, .inl (va_cpy (M.1 a0) (M.1 a1) sp.toNatClampNeg dp.toNatClampNeg n.toNatClampNeg)) := va_copied (fun z => .int z) _ _ (M.1 a0) (M.1 a1) h4
  rw [e1] at X' step
  have hlt : a1 < H.size := (Array.getElem?_eq_some_iff.mp hc1).1
  obtain ⟨cn, hcn⟩ : ∃ cn, cn = vp_cell (G.2.2.1 ti) (n1, .inl (va_cpy (M.1 a0) (M.1 a1) sp.toNatClampNeg dp.toNatClampNeg n.toNatClampNeg)) := ⟨_, rfl⟩
  rw [← hcn] at X' step
  have hheap : ((T.setVm vm').setCell a1 cn).heap = H.setIfInBounds a1 cn := by rw [← hT]; rfl
  have oq : ∀ q : Nat, q ≠ a1 → (H.setIfInBounds a1 cn)[q]? = H[q]? := fun q hq => by simp [Array.getElem?_setIfInBounds, Ne.symm hq]
  have hself : (H.setIfInBounds a1 cn)[a1]? = some cn := by simp [Array.getElem?_setIfInBounds, hlt]
  obtain ⟨t, q1, q2⟩ := kk _ (H.setIfInBounds a1 cn) _ h (hP.set hs1 ⟨by
      rw [hself, hcn, vp_cell_i, hkd]
      congr 2
      funext j
      simp [vK, wI], h6, fun hz j => by
      show fits .char (.int ((wI M a1 _).1 a1 j)) = true
      simp only [wI, if_true]
      unfold va_cpy
      split
      · exact hfit0 hz _
      · exact hfit1 hz _⟩ oq (fun b hb => by simp [wI, hb]) (fun _ _ => rfl) (fun _ _ => rfl)) ⟨⟨by simp; exact hS.1.1, fun q g1 g2 => by
      rw [oq q (fun e => g2 (by rw [e]; exact hb1))]
      exact hS.1.2.1 q g1 g2, fun q hq => by
      rcases List.mem_append.mp hq with h | h
      · exact hS.1.2.2 q h
      · obtain ⟨z, -, hz⟩ := List.mem_map.mp h
        rw [← hz]
        exact hb1⟩, by simp; exact hS.2⟩ _ hheap X'
  exact ⟨t, step t q1, q2⟩
theorem sw_out {x : Int32} {lo : Int} {n : Nat} (hlo : -2147483648 ≤ lo ∧ lo + n ≤ 2147483648) (h : ∀ j : Nat, j < n → x ≠ Int32.ofInt (lo + j)) : x.toInt < lo ∨ lo + (n : Int) - 1 < x.toInt := by
  by_cases h1 : x.toInt < lo
  · exact Or.inl h1
  · by_cases h2 : lo + (n : Int) - 1 < x.toInt
    · exact Or.inr h2
    · exfalso
      have e : x = Int32.ofInt (lo + ((x.toInt - lo).toNat : Nat)) := by
        have : lo + ((x.toInt - lo).toNat : Nat) = x.toInt := by omega
        rw [this]
        exact (Int32.ofInt_toInt x).symm
      exact h _ (by omega) e
theorem lk_ne {x : Int32} {k : Int} (c : Int32) (hc : c.toInt = k) (q : ¬ x = c) : ¬ k = x.toInt := fun h => q (Int32.toInt_inj.mp (h.symm.trans hc.symm))
end CORE4
