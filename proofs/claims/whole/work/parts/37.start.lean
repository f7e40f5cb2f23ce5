/-! ===== THE START: what the Statement gives, and the law from its entry ===== -/
def stC : Cond := Jvm.Cond.and given_1 narrow_1
def strI (i : Nat) : Nat := ((strT.getD i (0, "")).1)
def strTm (i : Nat) : Term := .string RX4 (strI i)
theorem sx_1 : ∀ i ∈ List.range 9, Cond.exactly (strTm i) "java/lang/String" ∈ flatC stC := by decide +kernel
theorem sx_2 : ∀ i ∈ List.range 9, Cond.eq (.field (strTm i) "java/lang/String" "coder" "B") (.int 0) ∈ flatC stC := by decide +kernel
theorem sx_3 : ∀ i ∈ List.range 9, Cond.arrayOf (.field (strTm i) "java/lang/String" "value" "[B") .byte ∈ flatC stC := by decide +kernel
theorem sx_4 : ∀ i ∈ List.range 9, Cond.eq (.length (.field (strTm i) "java/lang/String" "value" "[B")) (.int (Int32.ofNat (lenS.getD i 0))) ∈ flatC stC := by decide +kernel
theorem sx_5 : ∀ i ∈ List.range 9, ∀ j ∈ List.range (lenS.getD i 0), Cond.eq (.elem (.field (strTm i) "java/lang/String" "value" "[B") (.int (Int32.ofNat j))) (.int ((bytS.getD i []).getD j 0)) ∈ flatC stC := by decide +kernel
theorem sx_6 : ∀ q ∈ excT, Cond.exactly (.string RX6 q.1) "java/lang/String" ∈ flatC stC := by decide +kernel
theorem sx_7 : ∀ q ∈ ncL, Cond.not (.castable q.1 q.2) ∈ flatC stC := by decide +kernel
theorem sx_8 : Cond.eq (.static "java/lang/String" "COMPACT_STRINGS" "Z") (.int 1) ∈ flatC stC := by decide +kernel
theorem sx_9 : Cond.isRef (.static "jdk/internal/util/Preconditions" "SIOOBE_FORMATTER" "Ljava/util/function/BiFunction;") ∈ flatC stC := by decide +kernel
theorem sx_10 : Cond.isRef (.static Bundle.tN "UNASSIGNED_STACK" Bundle.steD) ∈ flatC stC := by decide +kernel
theorem sx_11 : Cond.isRef (.static Bundle.tN "SUPPRESSED_SENTINEL" Bundle.listD) ∈ flatC stC := by decide +kernel
theorem sx_12 : ∀ q ∈ strT, Cond.stringRef RX4 q.1 q.2 ∈ lw_tbl := List.forall_mem_cons.mpr ⟨(List.mem_of_getElem? (i := 500) (by decide +kernel)), List.forall_mem_cons.mpr ⟨(List.mem_of_getElem? (i := 501) (by decide +kernel)), List.forall_mem_cons.mpr ⟨(List.mem_of_getElem? (i := 502) (by decide +kernel)), List.forall_mem_cons.mpr ⟨(List.mem_of_getElem? (i := 503) (by decide +kernel)), List.forall_mem_cons.mpr ⟨(List.mem_of_getElem? (i := 504) (by decide +kernel)), List.forall_mem_cons.mpr ⟨(List.mem_of_getElem? (i := 505) (by decide +kernel)), List.forall_mem_cons.mpr ⟨(List.mem_of_getElem? (i := 506) (by decide +kernel)), List.forall_mem_cons.mpr ⟨(List.mem_of_getElem? (i := 507) (by decide +kernel)), List.forall_mem_cons.mpr ⟨(List.mem_of_getElem? (i := 560) (by decide +kernel)), fun _ h => absurd h List.not_mem_nil⟩⟩⟩⟩⟩⟩⟩⟩⟩
theorem sx_13 : ∀ q ∈ excT, Cond.stringRef RX6 q.1 q.2 ∈ lw_tbl := List.forall_mem_cons.mpr ⟨(List.mem_of_getElem? (i := 717) (by decide +kernel)), List.forall_mem_cons.mpr ⟨(List.mem_of_getElem? (i := 744) (by decide +kernel)), List.forall_mem_cons.mpr ⟨(List.mem_of_getElem? (i := 754) (by decide +kernel)), List.forall_mem_cons.mpr ⟨(List.mem_of_getElem? (i := 774) (by decide +kernel)), List.forall_mem_cons.mpr ⟨(List.mem_of_getElem? (i := 793) (by decide +kernel)), List.forall_mem_cons.mpr ⟨(List.mem_of_getElem? (i := 829) (by decide +kernel)), List.forall_mem_cons.mpr ⟨(List.mem_of_getElem? (i := 842) (by decide +kernel)), List.forall_mem_cons.mpr ⟨(List.mem_of_getElem? (i := 864) (by decide +kernel)), List.forall_mem_cons.mpr ⟨(List.mem_of_getElem? (i := 865) (by decide +kernel)), List.forall_mem_cons.mpr ⟨(List.mem_of_getElem? (i := 901) (by decide +kernel)), List.forall_mem_cons.mpr ⟨(List.mem_of_getElem? (i := 927) (by decide +kernel)), List.forall_mem_cons.mpr ⟨(List.mem_of_getElem? (i := 973) (by decide +kernel)), List.forall_mem_cons.mpr ⟨(List.mem_of_getElem? (i := 985) (by decide +kernel)), List.forall_mem_cons.mpr ⟨(List.mem_of_getElem? (i := 987) (by decide +kernel)), List.forall_mem_cons.mpr ⟨(List.mem_of_getElem? (i := 999) (by decide +kernel)), List.forall_mem_cons.mpr ⟨(List.mem_of_getElem? (i := 1099) (by decide +kernel)), List.forall_mem_cons.mpr ⟨(List.mem_of_getElem? (i := 1119) (by decide +kernel)), List.forall_mem_cons.mpr ⟨(List.mem_of_getElem? (i := 1127) (by decide +kernel)), List.forall_mem_cons.mpr ⟨(List.mem_of_getElem? (i := 1128) (by decide +kernel)), List.forall_mem_cons.mpr ⟨(List.mem_of_getElem? (i := 1137) (by decide +kernel)), fun _ h => absurd h List.not_mem_nil⟩⟩⟩⟩⟩⟩⟩⟩⟩⟩⟩⟩⟩⟩⟩⟩⟩⟩⟩⟩
theorem str_apart : ∀ i ∈ List.range 9, ∀ j ∈ List.range 9, i ≠ j → lenS.getD i 0 ≠ lenS.getD j 0 ∨ ∃ k ∈ List.range (lenS.getD i 0), (bytS.getD i []).getD k 0 ≠ (bytS.getD j []).getD k 0 := by decide +kernel
theorem lenS_le : ∀ i ∈ List.range 9, lenS.getD i 0 ≤ 8 := by decide +kernel
/-- the nine texts -/
theorem str_all {args : Array Value} {s : State} {A : Nat → Prop} (hf : ∀ c ∈ flatC stC, c.before args s = true) (hA : ∀ a : Nat, a < s.heap.size → ¬ A a) : ∃ adK adV : Nat → Nat, vk_S 9 lenS bytS adK adV A s s.heap ∧ ∀ i : Nat, i < 9 → (strTm i).eval args s none [] s = some (.ref (adK i)) := by
  have h0 : ∀ i : Nat, ∃ q : Nat × Nat, i < 9 → (strTm i).eval args s none [] s = some (.ref q.1) ∧ va_O "java/lang/String" q.1 A s s.heap ∧ va_OF "java/lang/String" "coder" "B" (.int 0) q.1 A s s.heap ∧ va_OF "java/lang/String" "value" "[B" (.ref q.2) q.1 A s s.heap ∧ va_T .byte q.2 (lenS.getD i 0) (fun j => .int ((bytS.getD i []).getD j 0)) A s s.heap := by
    intro i
    by_cases hi : i < 9
    · have hr : i ∈ List.range 9 := List.mem_range.mpr hi
      obtain ⟨a, c, cA, kA, q1, q2, q3, q4, q5, q6, -⟩ := Cond.exactly_spec (args := args) (first := s) (o := none) (s := s) (idx := []) (t := strTm i) (cls := "java/lang/String") (hf _ (sx_1 i hr))
      have hle := lenS_le i hr
      obtain ⟨t, ht, hT⟩ := va_Tof (f := fun j => .int ((bytS.getD i []).getD j 0)) (A := A) (by omega) (hf _ (sx_3 i hr)) (va_eqt (hf _ (sx_4 i hr))) (fun j hj => va_eqt (hf _ (sx_5 i hr j (List.mem_range.mpr hj)))) hA
      exact ⟨(a, t), fun _ => ⟨q1, ⟨cA, q3, q5, by rw [q6]; exact q2, hA a (Array.getElem?_eq_some_iff.mp q3).1⟩, vk_OFof q1 (va_eqt (hf _ (sx_2 i hr))) hA, vk_OFof q1 ht hA, hT⟩⟩
    · exact ⟨(0, 0), fun h => absurd h hi⟩
  obtain ⟨ad, had⟩ := Classical.axiomOfChoice h0
  refine ⟨fun i => (ad i).1, fun i => (ad i).2, ⟨fun i hi => (had i hi).2, fun i j hi hj ee => ?_⟩, fun i hi => (had i hi).1⟩
  by_cases hij : i = j
  · exact hij
  · exfalso
    obtain ⟨-, -, -, f1, t1⟩ := had i hi
    obtain ⟨-, -, -, f2, t2⟩ := had j hj
    obtain ⟨c1, k1, i1, g1, cell1, a1, a2, a3, a4, a5, a6⟩ := f1
    obtain ⟨c2, k2, i2, g2, cell2, b1, b2, b3, b4, b5, b6⟩ := f2
    have ez := Option.some.inj (a1.symm.trans b1)
    cases ez
    have ee' : (ad i).1 = (ad j).1 := ee
    rw [ee'] at a3
    cases Option.some.inj (a3.symm.trans b3)
    have ev : (ad i).2 = (ad j).2 := Value.ref.inj (Option.some.inj (a5.symm.trans b5))
    obtain ⟨d1, u1, u2, u3, u4, u5, u6, u7⟩ := t1
    obtain ⟨d2, v1, v2, v3, v4, v5, v6, v7⟩ := t2
    rw [ev] at u1
    cases Option.some.inj (u1.symm.trans v1)
    have hli := lenS_le i (List.mem_range.mpr hi)
    have hlj := lenS_le j (List.mem_range.mpr hj)
    have el : lenS.getD i 0 = lenS.getD j 0 := by
      have := u5.symm.trans v5
      exact (nI_eq (by omega) (by omega)).mp this
    rcases str_apart i (List.mem_range.mpr hi) j (List.mem_range.mpr hj) hij with h | ⟨k, hk, h⟩
    · exact h el
    · have hk' := List.mem_range.mp hk
      have := Option.some.inj ((u6 k hk').symm.trans (v6 k (by omega)))
      exact h (Value.int.inj this)
theorem arrT_of {args : Array Value} {s : State} {ty : FieldType} (h : (Cond.arrayClass ty).before args s = true) : ∃ cA, ArrOfT s cA ty ∧ s.vm.findClass ("[" ++ ty.toString) = some cA := by
  obtain ⟨cA, kA, comp, hfind, hk, hkind⟩ := Cond.arrayClass_spec h
  exact ⟨cA, fun n z => ⟨fun k h => (by cases h), kA, hk, comp, hkind⟩, hfind⟩
theorem arrQ_of {args : Array Value} {s : State} {C : String} (h : (Cond.arrayOver (.object C)).before args s = true) : ∃ cA, ArrOfT s cA (.object C) ∧ va_RA s cA (.object C) := by
  obtain ⟨comp, cA, k, h1, h2, h3, h4, h5⟩ := Cond.arrayOver_spec h
  exact ⟨cA, fun n z => ⟨fun k h => (by cases h), k, h3, comp, h4⟩, k, comp, h3, h4, h1, h5⟩
/-- the world at the law's entry -/
theorem start_world {p : Program} {s : State} {m : MethodId} {meth : Method} {c : Code} {b L : Nat} {xs : Nat → Int32} (C0 : lw_At p s m meth c b L xs) : ∃ G : Gt, G.1 = s.heap.size ∧ KK G s ∧ XE G s s.heap ∧ NC s := by
  obtain ⟨hx, hb, hr, hml, hown, hts, hX, hbl, hlocks, hgv⟩ := id C0
  have hf : ∀ c ∈ flatC stC, c.before #[Value.ref b] s = true := flat_of_before _ hgv
  have hgw : ∀ w ∈ GW, w.before #[Value.ref b] s = true := fun w hw => hts w (List.mem_filter.mp hw).1
  have hA : ∀ a : Nat, a < s.heap.size → ¬ (fun q : Nat => s.heap.size ≤ q) a := fun a h h2 => absurd h (Nat.not_lt.mpr h2)
  obtain ⟨c0, iS0, hKn0⟩ := u_known (C := RX0) (T := TX0) (N := 1) (n := 1) hgw cl_0.2.1 (hgw _ wd_252)
  obtain ⟨c1, iS1, hKn1⟩ := u_known (C := RX1) (T := TX1) (N := 5) (n := 5) hgw cl_1.2.1 (hgw _ wd_182)
  obtain ⟨c2, iS2, hKn2⟩ := u_known (C := RX2) (T := TX2) (N := 4) (n := 4) hgw cl_2.2.1 (hgw _ wd_232)
  obtain ⟨c3, iS3, hKn3⟩ := u_known (C := RX3) (T := TX3) (N := 5) (n := 5) hgw cl_3.2.1 (hgw _ wd_105)
  obtain ⟨c4, iS4, hKn4⟩ := u_known (C := RX4) (T := TX4) (N := 12) (n := 12) hgw cl_4.2.1 (hgw _ wd_111)
  obtain ⟨c5, iS5, hKn5⟩ := u_known (C := RX5) (T := TX5) (N := 2) (n := 2) hgw cl_5.2.1 (hgw _ wd_118)
  obtain ⟨c6, iS6, hKn6⟩ := u_known (C := RX6) (T := TX6) (N := 8) (n := 8) hgw cl_6.2.1 (hgw _ wd_97)
  obtain ⟨c7, iS7, hKn7⟩ := u_known (C := RX7) (T := TX7) (N := 12) (n := 12) hgw cl_7.2.1 (hgw _ wd_1139)
  obtain ⟨dC, dI, hKc⟩ : ∃ (dC : Nat → ClassId) (dI : Nat → Nat → Nat), ∀ (k : Nat) (q : vw_C), vwCl[k]? = some q → u_Kn s q.1 q.2.1 q.2.2 (dC k) (dI k) := by
    refine ⟨fun k => match k with | 0 => c0 | 1 => c1 | 2 => c2 | 3 => c3 | 4 => c4 | 5 => c5 | 6 => c6 | _ => c7, fun k => match k with | 0 => iS0 | 1 => iS1 | 2 => iS2 | 3 => iS3 | 4 => iS4 | 5 => iS5 | 6 => iS6 | _ => iS7, ?_⟩
    intro k q hq
    match k, hq with
    | 0, hq => cases hq; exact hKn0
    | 1, hq => cases hq; exact hKn1
    | 2, hq => cases hq; exact hKn2
    | 3, hq => cases hq; exact hKn3
    | 4, hq => cases hq; exact hKn4
    | 5, hq => cases hq; exact hKn5
    | 6, hq => cases hq; exact hKn6
    | 7, hq => cases hq; exact hKn7
    | k + 8, hq => simp [vwCl] at hq
  obtain ⟨aA0, hA0, hF0⟩ := arrT_of (hgw _ wd_134)
  obtain ⟨aA1, hA1, hF1⟩ := arrT_of (hgw _ wd_135)
  obtain ⟨aA2, hA2, hF2⟩ := arrT_of (hgw _ wd_1552)
  obtain ⟨aA3, hA3, hF3⟩ := arrT_of (hgw _ wd_1181)
  have hAO4 : (Cond.arrayOver (.object "SpokenTree$Words")).before #[Value.ref b] s = true := hts _ (List.mem_of_getElem? (i := 117) (by decide +kernel))
  obtain ⟨aA4, hA4, hF4⟩ := arrQ_of hAO4
  have hAO5 : (Cond.arrayOver (.object "SpokenTree$Scene")).before #[Value.ref b] s = true := hts _ (List.mem_of_getElem? (i := 261) (by decide +kernel))
  obtain ⟨aA5, hA5, hF5⟩ := arrQ_of hAO5
  obtain ⟨adK, adV, hS, hev⟩ := str_all (A := fun q : Nat => s.heap.size ≤ q) hf hA
  refine ⟨(s.heap.size, (dC, dI), (fun k => match k with | 0 => aA0 | 1 => aA1 | 2 => aA2 | 3 => aA3 | 4 => aA4 | _ => aA5), adK, adV), rfl, ⟨hKc, fun k q hk => ?_⟩, ⟨vx_Zqof (hts _ (List.mem_of_getElem? (i := 703) (by decide +kernel))) (hgw _ wd_83) (hf _ sx_10) hA, vx_Zqof (hts _ (List.mem_of_getElem? (i := 705) (by decide +kernel))) (hgw _ wd_83) (hf _ sx_11) hA, va_Zof (hts _ (List.mem_of_getElem? (i := 521) (by decide +kernel))) (hgw _ wd_92) (va_eqt (hf _ sx_8)) hA, va_Zqof (hts _ (List.mem_of_getElem? (i := 537) (by decide +kernel))) (hgw _ wd_94) (hf _ sx_9) hA, hS, fun i q hi => ?_, fun q hq => ?_, fun w hw => ?_, va_AO.of hAO4, va_AO.of hAO5⟩, fun q hq => va_Nc.of (hf _ (sx_7 q hq))⟩
  · match k, hk with
    | 0, hk => cases hk; exact ⟨hA0, hF0⟩
    | 1, hk => cases hk; exact ⟨hA1, hF1⟩
    | 2, hk => cases hk; exact ⟨hA2, hF2⟩
    | 3, hk => cases hk; exact ⟨hA3, hF3⟩
    | 4, hk => cases hk; exact ⟨hA4, hF4⟩
    | 5, hk => cases hk; exact ⟨hA5, hF5⟩
    | k + 6, hk => simp [tysL] at hk
  · have h9 : i < 9 := (List.getElem?_eq_some_iff.mp hi).1
    have e1 := hev i h9
    have e2 : strI i = q.1 := by
      unfold strI
      rw [List.getD_eq_getElem?_getD, hi]
      rfl
    unfold strTm at e1
    rw [e2] at e1
    have h := vk_R.of (U := s) (A := #[Value.ref b]) (hts _ (sx_12 q (List.mem_of_getElem? hi))) e1
    exact h
  · obtain ⟨a, c, cA, kA, q1, -⟩ := Cond.exactly_spec (args := #[Value.ref b]) (first := s) (o := none) (s := s) (idx := []) (t := .string RX6 q.1) (cls := "java/lang/String") (hf _ (sx_6 q hq))
    have h := vk_R.of (U := s) (A := #[Value.ref b]) (hts _ (sx_13 q hq)) q1
    exact ⟨a, h⟩
  · obtain ⟨h1, h2⟩ := List.mem_filter.mp hw
    exact va_Nw.of (nw_tab h2) (hts w h1)
/-- the law, pure: its start, and its loop -/
noncomputable def fL_start (n : Nat) (B : Nat) (xs : Nat → Int32) (L : Nat) : Option Int32 :=
  nO (fun _ => none) (fun _ _ => 0, fun _ _ => none, fun _ _ => 0) B 6 fun S1 M1 n1 =>
  (fX6_init n S1 M1 n1 B).bind fun r1 =>
  nO r1.1 r1.2.1 r1.2.2 7 fun S2 M2 n2 =>
  (fX7_init n S2 M2 n2 r1.2.2).bind fun r2 =>
  nA r2.1 r2.2.1 r2.2.2 2 1 1 fun S3 M3 _ =>
  chk (S3 B = some (.inl 6) ∧ S3 r1.2.2 = some (.inl 7)) <|
  fL_loop n S3 xs L B r1.2.2 r2.2.2 0 M3
set_option maxHeartbeats 8000000 in
set_option maxRecDepth 100000 in
theorem start_go {p : Program} {e : Env} {s : State} {m : MethodId} {below : List Frame} {meth : Method} {c : Code} (l : Launch) (hflags : l.flags = flags0) {b L : Nat} {xs : Nat → Int32} (C0 : lw_At p s m meth c b L xs) {n : Nat} (h : fL_start n s.heap.size xs L = some 1) : W p l e room_1 s m #[Value.ref b] below meth c s.heap [] 0 0 (lw_Z below #[Value.ref b] s) (entryFrame m ([Value.ref b] : List Value).toArray 7) := by
  obtain ⟨G, hG, hK, hX, hN⟩ := start_world C0
  obtain ⟨hx, hbb, hr, hml, hown, hts, hXs, hbl, hlocks, hgv⟩ := id C0
  have hfl : l.stackTraces = false := by rw [Launch.stackTraces, hflags]; rfl
  have C : CallFix p m c cL_law 7 s #[Value.ref b] GW RL := ⟨hx, hbb, hml, hown, fun w hw => hts w (List.mem_filter.mp hw).1⟩
  have hb : G.1 ≤ s.heap.size := Nat.le_of_eq hG
  have hbA : ¬ AA G b := fun q => absurd hbl (Nat.not_lt.mpr (by rw [← hG]; exact q))
  have hl := lv_entry ([.ref b]) (n := 7) (Nat.le_of_ble_eq_true rfl)
  rw [lg_entry_eq]
  generalize (lg_sl ([.ref b]) ++ List.replicate (7 - (lg_sl ([.ref b])).length) Slot.unset).toArray = ls at hl ⊢
  replace hl : lv_has ls 7 [(0, .ref b)] := hl
  have hP : HM G (fun _ => none) (fun _ _ => 0, fun _ _ => none, fun _ _ => 0) s.heap := fun a x h => by cases h
  have hS : SS G s s.heap.size s.heap [] := ⟨va_S.rf, rfl⟩
  unfold fL_start at h
  refine r_new (k1 := 1) (k2 := 8) C hK hb hP hS cl_6 tyX6 tyX6_ok (by intro k hk; rcases (by omega : k = 0 ∨ k = 1 ∨ k = 2 ∨ k = 3 ∨ k = 4 ∨ k = 5 ∨ k = 6 ∨ k = 7) with rfl | rfl | rfl | rfl | rfl | rfl | rfl | rfl <;> rfl) wd_96 wd_97 wd_75 ⟨Nat.le_of_ble_eq_true rfl, Nat.le_of_ble_eq_true rfl⟩ ⟨Nat.le_of_ble_eq_true rfl, Nat.le_of_ble_eq_true rfl⟩ dL_law_0 h (fun S1 M1 n1 H locs h hP hS => ?_)
  refine lv_dup C.1 C.2.1 dL_law_3 rfl ?_
  obtain ⟨r1, hc, h⟩ := bS h
  refine r_I (k1 := 1012) (k2 := 121034) C hK hX hb hP hS hl.1 (kX6_init hc) rfl wd_98 mo_X6_init wd_99 ⟨Nat.le_of_ble_eq_true rfl, Nat.le_of_ble_eq_true rfl⟩ ⟨show 1 + 1011 ≤ 1012 by omega, show 8 + 121026 ≤ 121034 by omega⟩ ⟨show 1012 ≤ 601024 by omega, show 121034 ≤ 7293034 by omega⟩ rfl (rest := [.ref s.heap.size]) rfl (Nat.le_of_ble_eq_true rfl) dL_law_4 (fun H locs hP hS => ?_)
  refine lv_astore_n (lv' := [(1, .ref s.heap.size), (0, .ref b)]) C.1 C.2.1 dL_law_7 rfl hl (by decide) rfl (fun ls hl => ?_)
  refine r_new (k1 := 1013) (k2 := 121046) C hK hb hP hS cl_7 tyX7 tyX7_ok (by intro k hk; rcases (by omega : k = 0 ∨ k = 1 ∨ k = 2 ∨ k = 3 ∨ k = 4 ∨ k = 5 ∨ k = 6 ∨ k = 7 ∨ k = 8 ∨ k = 9 ∨ k = 10 ∨ k = 11) with rfl | rfl | rfl | rfl | rfl | rfl | rfl | rfl | rfl | rfl | rfl | rfl <;> rfl) wd_1138 wd_1139 wd_82 ⟨show 1012 + 1 ≤ 1013 by omega, show 121034 + 12 ≤ 121046 by omega⟩ ⟨show 1013 ≤ 601024 by omega, show 121046 ≤ 7293034 by omega⟩ dL_law_8 h (fun S2 M2 n2 H locs h hP hS => ?_)
  refine lv_dup C.1 C.2.1 dL_law_11 rfl ?_
  obtain ⟨r2, hc2, h⟩ := bS h
  refine r_I (k1 := 1019) (k2 := 141792) C hK hX hb hP hS hl.1 (kX7_init hc2) rfl wd_1140 mo_X7_init wd_1141 ⟨Nat.le_of_ble_eq_true rfl, Nat.le_of_ble_eq_true rfl⟩ ⟨show 1013 + 6 ≤ 1019 by omega, show 121046 + 20746 ≤ 141792 by omega⟩ ⟨show 1019 ≤ 601024 by omega, show 141792 ≤ 7293034 by omega⟩ rfl (rest := [.ref r1.2.2]) rfl (Nat.le_of_ble_eq_true rfl) dL_law_12 (fun H locs hP hS => ?_)
  refine lv_astore_n (lv' := [(2, .ref r1.2.2), (1, .ref s.heap.size), (0, .ref b)]) C.1 C.2.1 dL_law_15 rfl hl (by decide) rfl (fun ls hl => ?_)
  refine lv_iconst (v := 1) C.1 C.2.1 dL_law_16 (by decide) ?_
  refine r_newA (atype := .long) (k1 := 1020) (k2 := 141793) C hK hb hP hS wd_1552 (by decide) rfl (by decide) ⟨show 1019 + 1 ≤ 1020 by omega, show 141792 + 1 ≤ 141793 by omega⟩ ⟨show 1020 ≤ 601024 by omega, show 141793 ≤ 7293034 by omega⟩ dL_law_17 h (fun S3 M3 n3 H locs h hP hS => ?_)
  refine lv_astore_n (lv' := [(3, .ref r2.2.2), (2, .ref r1.2.2), (1, .ref s.heap.size), (0, .ref b)]) C.1 C.2.1 dL_law_19 rfl hl (by decide) rfl (fun ls hl => ?_)
  refine lv_iconst (v := 0) C.1 C.2.1 dL_law_20 (by decide) ?_
  refine lv_istore (lv' := [(4, .int 0), (3, .ref r2.2.2), (2, .ref r1.2.2), (1, .ref s.heap.size), (0, .ref b)]) C.1 C.2.1 dL_law_21 hl (by decide) rfl (fun ls hl => ?_)
  obtain ⟨⟨hTx, hTm⟩, h⟩ := chk_some h
  refine kL_loop C hfl hK hX hN hb hXs hbl hbA hTx hTm ?_ 513 0 M3 _ _ H locs ls (show 1020 + 8 * 513 ≤ 10000 by omega) (show 141793 + 48 * 513 ≤ 200000 by omega) hP hS.1 (lv_sub hl [4, 3, 2, 1, 0] rfl) h
  intro H locs ls k1 k2 hS h1 h2
  refine va_forget (fun q hq => by have := hS.2.2 q hq; rw [← hG]; exact this) ?_
  refine W.widen (k := 601024) (n := 7293034) (by omega) (by omega) ?_
  exact lw_ret hx hbb hr hlocks dL_law_2040
