/-! ===== CORE 2: reads, writes, branches, calls, ends over the memory ===== -/
section CORE2
variable {p : Program} {l : Launch} {e : Env} {R : Room} {s : State} {m : MethodId} {args : Array Value} {below : List Frame} {meth : Method} {c : Code} {H : Heap} {locs : List Loc} {cells slots : Nat} {Q : State → Prop}
variable {cc : ByteArray} {nL pc nx : Nat} {ls : Array Slot} {rest : List Value} {own : String} {G : Gt} {Sh : Sp} {M : Mm} {a : Nat} {ρ : Type} {r0 : ρ}
-- 'this' has its shape known: no check
def tI (M : Mm) (a k : Nat) (K : Int32 → Option ρ) : Option ρ := K (M.1 a k)
def tF (M : Mm) (a k : Nat) (K : Nat → Option ρ) : Option ρ := gR (M.2.1 a k) K
def tL (M : Mm) (a k : Nat) (K : Int64 → Option ρ) : Option ρ := K (M.2.2 a k)
def qI (M : Mm) (a k : Nat) (v : Int32) (K : Mm → Option ρ) : Option ρ := K (uI M a k v)
def qL (M : Mm) (a k : Nat) (v : Int64) (K : Mm → Option ρ) : Option ρ := K (uL M a k v)
theorem r_gI (C : CallFix p m c cc nL s args GW own) (hK : KK G s) (hP : HM G Sh M H) {ci k idx N : Nat} {Cn : String} {T : u_T} (hc : CLS ci Cn T N) (hk : k < N) (hlink : Cond.fieldLink own idx (T k).1 (T k).2.1 (T k).2.2.1 ∈ GW) (hkd : kd ci k = 0) (hdg : decode cc pc = .ok (.getfield idx, 3))
    {K : Int32 → Option ρ} (h : gI Sh M a ci k K = some r0) (kk : ∀ v, K v = some r0 → W p l e R s m args below meth c H locs cells slots Q (F0 m (pc + 3) ls (.int v :: rest))) : W p l e R s m args below meth c H locs cells slots Q (F0 m pc ls (.ref a :: rest)) := by
  obtain ⟨hs, h⟩ := chk_some h
  refine r_get C hK hP hc hk hlink hs hdg ?_
  rw [hkd]
  exact kk _ h
theorem r_gF (C : CallFix p m c cc nL s args GW own) (hK : KK G s) (hP : HM G Sh M H) {ci k idx N : Nat} {Cn : String} {T : u_T} (hc : CLS ci Cn T N) (hk : k < N) (hlink : Cond.fieldLink own idx (T k).1 (T k).2.1 (T k).2.2.1 ∈ GW) (hkd : kd ci k = 1) (hdg : decode cc pc = .ok (.getfield idx, 3))
    {K : Nat → Option ρ} (h : gF Sh M a ci k K = some r0) (kk : ∀ v, K v = some r0 → W p l e R s m args below meth c H locs cells slots Q (F0 m (pc + 3) ls (.ref v :: rest))) : W p l e R s m args below meth c H locs cells slots Q (F0 m pc ls (.ref a :: rest)) := by
  obtain ⟨hs, h⟩ := chk_some h
  obtain ⟨b, hb, h⟩ := gR_some h
  refine r_get C hK hP hc hk hlink hs hdg ?_
  rw [hkd]
  show W p l e R s m args below meth c H locs cells slots Q (F0 m (pc + 3) ls (va_rf (M.2.1 a k) :: rest))
  rw [hb]
  exact kk _ h
theorem r_gIN (C : CallFix p m c cc nL s args GW own) (hK : KK G s) (hP : HM G Sh M H) {ci k idx N : Nat} {Cn host : String} {T : u_T} (hc : CLS ci Cn T N) (hk : k < N) (hlink : (Cond.fieldLinkNest own idx (T k).1 (T k).2.1 (T k).2.2.1 host).before args s = true) (hkd : kd ci k = 0) (hdg : decode cc pc = .ok (.getfield idx, 3))
    {K : Int32 → Option ρ} (h : gI Sh M a ci k K = some r0) (kk : ∀ v, K v = some r0 → W p l e R s m args below meth c H locs cells slots Q (F0 m (pc + 3) ls (.int v :: rest))) : W p l e R s m args below meth c H locs cells slots Q (F0 m pc ls (.ref a :: rest)) := by
  obtain ⟨hs, h⟩ := chk_some h
  refine r_getN C hK hP hc hk hlink hs hdg ?_
  rw [hkd]
  exact kk _ h
theorem r_gFN (C : CallFix p m c cc nL s args GW own) (hK : KK G s) (hP : HM G Sh M H) {ci k idx N : Nat} {Cn host : String} {T : u_T} (hc : CLS ci Cn T N) (hk : k < N) (hlink : (Cond.fieldLinkNest own idx (T k).1 (T k).2.1 (T k).2.2.1 host).before args s = true) (hkd : kd ci k = 1) (hdg : decode cc pc = .ok (.getfield idx, 3))
    {K : Nat → Option ρ} (h : gF Sh M a ci k K = some r0) (kk : ∀ v, K v = some r0 → W p l e R s m args below meth c H locs cells slots Q (F0 m (pc + 3) ls (.ref v :: rest))) : W p l e R s m args below meth c H locs cells slots Q (F0 m pc ls (.ref a :: rest)) := by
  obtain ⟨hs, h⟩ := chk_some h
  obtain ⟨b, hb, h⟩ := gR_some h
  refine r_getN C hK hP hc hk hlink hs hdg ?_
  rw [hkd]
  show W p l e R s m args below meth c H locs cells slots Q (F0 m (pc + 3) ls (va_rf (M.2.1 a k) :: rest))
  rw [hb]
  exact kk _ h
theorem r_tI (C : CallFix p m c cc nL s args GW own) (hK : KK G s) (hP : HM G Sh M H) {ci k idx N : Nat} {Cn : String} {T : u_T} (hs : Sh a = some (.inl ci)) (hc : CLS ci Cn T N) (hk : k < N) (hlink : Cond.fieldLink own idx (T k).1 (T k).2.1 (T k).2.2.1 ∈ GW) (hkd : kd ci k = 0) (hdg : decode cc pc = .ok (.getfield idx, 3))
    {K : Int32 → Option ρ} (h : tI M a k K = some r0) (kk : ∀ v, K v = some r0 → W p l e R s m args below meth c H locs cells slots Q (F0 m (pc + 3) ls (.int v :: rest))) : W p l e R s m args below meth c H locs cells slots Q (F0 m pc ls (.ref a :: rest)) :=
  r_gI C hK hP hc hk hlink hkd hdg (K := K) (by unfold gI; rw [chk_pos hs]; exact h) kk
theorem r_tF (C : CallFix p m c cc nL s args GW own) (hK : KK G s) (hP : HM G Sh M H) {ci k idx N : Nat} {Cn : String} {T : u_T} (hs : Sh a = some (.inl ci)) (hc : CLS ci Cn T N) (hk : k < N) (hlink : Cond.fieldLink own idx (T k).1 (T k).2.1 (T k).2.2.1 ∈ GW) (hkd : kd ci k = 1) (hdg : decode cc pc = .ok (.getfield idx, 3))
    {K : Nat → Option ρ} (h : tF M a k K = some r0) (kk : ∀ v, K v = some r0 → W p l e R s m args below meth c H locs cells slots Q (F0 m (pc + 3) ls (.ref v :: rest))) : W p l e R s m args below meth c H locs cells slots Q (F0 m pc ls (.ref a :: rest)) :=
  r_gF C hK hP hc hk hlink hkd hdg (K := K) (by unfold gF; rw [chk_pos hs]; exact h) kk
theorem r_tL (C : CallFix p m c cc nL s args GW own) (hK : KK G s) (hP : HM G Sh M H) {ci k idx N : Nat} {Cn : String} {T : u_T} (hs : Sh a = some (.inl ci)) (hc : CLS ci Cn T N) (hk : k < N) (hlink : Cond.fieldLink own idx (T k).1 (T k).2.1 (T k).2.2.1 ∈ GW) (hkd : kd ci k = 2) (hdg : decode cc pc = .ok (.getfield idx, 3))
    {K : Int64 → Option ρ} (h : tL M a k K = some r0) (kk : ∀ v, K v = some r0 → W p l e R s m args below meth c H locs cells slots Q (F0 m (pc + 3) ls (.long v :: rest))) : W p l e R s m args below meth c H locs cells slots Q (F0 m pc ls (.ref a :: rest)) := by
  refine r_get C hK hP hc hk hlink hs hdg ?_
  rw [hkd]
  exact kk _ h
theorem vK_uI (M : Mm) (a k : Nat) (v : Int32) : vK (uI M a k v) 0 a k = .int v := by simp [vK, uI, wI, upd]
theorem vK_uIo (M : Mm) (a k : Nat) (v : Int32) (kind j : Nat) (h : j ≠ k) : vK (uI M a k v) kind a j = vK M kind a j := by
  unfold vK uI wI
  split <;> simp [upd, h]
theorem uI_o (M : Mm) (a k : Nat) (v : Int32) (b : Nat) (h : b ≠ a) : (uI M a k v).1 b = M.1 b := by simp [uI, wI, h]
theorem r_pI (C : CallFix p m c cc nL s args GW own) (hK : KK G s) (hP : HM G Sh M H) (hS : SS G s nx H locs) {ci k idx N : Nat} {Cn : String} {T : u_T} (hc : CLS ci Cn T N) (hk : k < N) (hlink : Cond.fieldLink own idx (T k).1 (T k).2.1 (T k).2.2.1 ∈ GW) (hkd : kd ci k = 0) (hfin : (T k).2.2.2 = false) (hd : parseFieldDescriptor (T k).2.2.1 = some .int) {v : Int32} (hdg : decode cc pc = .ok (.putfield idx, 3))
    {K : Mm → Option ρ} (h : pI Sh M a ci k v K = some r0) (kk : ∀ (M' : Mm) (H1 : Heap) (locs1 : List Loc), K M' = some r0 → HM G Sh M' H1 → SS G s nx H1 locs1 → W p l e R s m args below meth c H1 locs1 cells slots Q (F0 m (pc + 3) ls rest)) : W p l e R s m args below meth c H locs cells slots Q (F0 m pc ls (.int v :: .ref a :: rest)) := by
  obtain ⟨hs, h⟩ := chk_some h
  exact r_put0 C hK hP hS hc hk hlink hs hfin hd (v := .int v) rfl rfl (M' := uI M a k v) (by rw [hkd]; exact vK_uI M a k v) (fun j hj => vK_uIo M a k v _ j hj) (uI_o M a k v) (fun _ _ => rfl) (fun _ _ => rfl) hdg (fun H1 locs1 q1 q2 => kk _ H1 locs1 h q1 q2)
theorem r_pIN (C : CallFix p m c cc nL s args GW own) (hK : KK G s) (hP : HM G Sh M H) (hS : SS G s nx H locs) {ci k idx N : Nat} {Cn host : String} {T : u_T} (hc : CLS ci Cn T N) (hk : k < N) (hlink : (Cond.fieldLinkNest own idx (T k).1 (T k).2.1 (T k).2.2.1 host).before args s = true) (hkd : kd ci k = 0) (hfin : (T k).2.2.2 = false) (hd : parseFieldDescriptor (T k).2.2.1 = some .int) {v : Int32} (hdg : decode cc pc = .ok (.putfield idx, 3))
    {K : Mm → Option ρ} (h : pI Sh M a ci k v K = some r0) (kk : ∀ (M' : Mm) (H1 : Heap) (locs1 : List Loc), K M' = some r0 → HM G Sh M' H1 → SS G s nx H1 locs1 → W p l e R s m args below meth c H1 locs1 cells slots Q (F0 m (pc + 3) ls rest)) : W p l e R s m args below meth c H locs cells slots Q (F0 m pc ls (.int v :: .ref a :: rest)) := by
  obtain ⟨hs, h⟩ := chk_some h
  exact r_putN0 C hK hP hS hc hk hlink hs hfin hd (v := .int v) rfl rfl (M' := uI M a k v) (by rw [hkd]; exact vK_uI M a k v) (fun j hj => vK_uIo M a k v _ j hj) (uI_o M a k v) (fun _ _ => rfl) (fun _ _ => rfl) hdg (fun H1 locs1 q1 q2 => kk _ H1 locs1 h q1 q2)
theorem r_qI (C : CallFix p m c cc nL s args GW own) (hK : KK G s) (hP : HM G Sh M H) (hS : SS G s nx H locs) {ci k idx N : Nat} {Cn : String} {T : u_T} (hs : Sh a = some (.inl ci)) (hc : CLS ci Cn T N) (hk : k < N) (hlink : Cond.fieldLink own idx (T k).1 (T k).2.1 (T k).2.2.1 ∈ GW) (hkd : kd ci k = 0) (hfin : (T k).2.2.2 = false) (hd : parseFieldDescriptor (T k).2.2.1 = some .int) {v : Int32} (hdg : decode cc pc = .ok (.putfield idx, 3))
    {K : Mm → Option ρ} (h : qI M a k v K = some r0) (kk : ∀ (M' : Mm) (H1 : Heap) (locs1 : List Loc), K M' = some r0 → HM G Sh M' H1 → SS G s nx H1 locs1 → W p l e R s m args below meth c H1 locs1 cells slots Q (F0 m (pc + 3) ls rest)) : W p l e R s m args below meth c H locs cells slots Q (F0 m pc ls (.int v :: .ref a :: rest)) :=
  r_pI C hK hP hS hc hk hlink hkd hfin hd hdg (K := K) (by unfold pI; rw [chk_pos hs]; exact h) kk
theorem r_qL (C : CallFix p m c cc nL s args GW own) (hK : KK G s) (hP : HM G Sh M H) (hS : SS G s nx H locs) {ci k idx N : Nat} {Cn : String} {T : u_T} (hs : Sh a = some (.inl ci)) (hc : CLS ci Cn T N) (hk : k < N) (hlink : Cond.fieldLink own idx (T k).1 (T k).2.1 (T k).2.2.1 ∈ GW) (hkd : kd ci k = 2) (hfin : (T k).2.2.2 = false) (hd : parseFieldDescriptor (T k).2.2.1 = some .long) {v : Int64} (hdg : decode cc pc = .ok (.putfield idx, 3))
    {K : Mm → Option ρ} (h : qL M a k v K = some r0) (kk : ∀ (M' : Mm) (H1 : Heap) (locs1 : List Loc), K M' = some r0 → HM G Sh M' H1 → SS G s nx H1 locs1 → W p l e R s m args below meth c H1 locs1 cells slots Q (F0 m (pc + 3) ls rest)) : W p l e R s m args below meth c H locs cells slots Q (F0 m pc ls (.long v :: .ref a :: rest)) :=
  r_put0 C hK hP hS hc hk hlink hs hfin hd (v := .long v) rfl rfl (M' := uL M a k v) (by rw [hkd]; simp [vK, uL, vp_updL]) (fun j hj => by unfold vK uL; split <;> simp [vp_updL, hj]) (fun _ _ => rfl) (fun _ _ => rfl) (fun b hb => by simp [uL, hb]) hdg (fun H1 locs1 q1 q2 => kk _ H1 locs1 h q1 q2)
-- arrays
theorem arr_in {i : Int32} {N : Nat} {cI : ClassId} {f : Nat → Value} (h : vp_in i N) : ¬ (i < 0 ∨ (arrV cI N f).slots.size ≤ i.toNatClampNeg) := by rw [arrV_size]; exact h
theorem r_aI (C : CallFix p m c cc nL s args GW own) (hK : KK G s) (hP : HM G Sh M H) {i : Int32} (hdg : decode cc pc = .ok (.iaload, 1))
    {K : Int32 → Option ρ} (h : aI Sh M a 0 i K = some r0) (kk : ∀ v, K v = some r0 → W p l e R s m args below meth c H locs cells slots Q (F0 m (pc + 1) ls (.int v :: rest))) : W p l e R s m args below meth c H locs cells slots Q (F0 m pc ls (.int i :: .ref a :: rest)) := by
  obtain ⟨⟨N, hs, hin⟩, h⟩ := chk_some h
  have hlt : i.toNatClampNeg < N := Nat.not_le.mp fun q => hin (Or.inr q)
  obtain ⟨hx, hb, -⟩ := C
  exact W.iald (v := .int (M.1 a i.toNatClampNeg)) hx hb (hP a _ hs).2.1 ((hK.arr (ti := 0) (by decide)).1 N _) (fun q => by cases q) (arr_in hin) (by rw [arrV_read _ _ hlt]; rfl) rfl rfl hdg (kk _ h)
theorem r_aC (C : CallFix p m c cc nL s args GW own) (hK : KK G s) (hP : HM G Sh M H) {i : Int32} (hdg : decode cc pc = .ok (.caload, 1))
    {K : Int32 → Option ρ} (h : aI Sh M a 1 i K = some r0) (kk : ∀ v, K v = some r0 → W p l e R s m args below meth c H locs cells slots Q (F0 m (pc + 1) ls (.int v :: rest))) : W p l e R s m args below meth c H locs cells slots Q (F0 m pc ls (.int i :: .ref a :: rest)) := by
  obtain ⟨⟨N, hs, hin⟩, h⟩ := chk_some h
  have hlt : i.toNatClampNeg < N := Nat.not_le.mp fun q => hin (Or.inr q)
  obtain ⟨hx, hb, -⟩ := C
  exact W.cald (v := .int (M.1 a i.toNatClampNeg)) hx hb (hP a _ hs).2.1 ((hK.arr (ti := 1) (by decide)).1 N _) (fun q => by cases q) (arr_in hin) (by rw [arrV_read _ _ hlt]; rfl) rfl rfl hdg (kk _ h)
theorem r_aZ (C : CallFix p m c cc nL s args GW own) (hK : KK G s) (hP : HM G Sh M H) {i : Int32} (hdg : decode cc pc = .ok (.baload, 1))
    {K : Int32 → Option ρ} (h : aI Sh M a 3 i K = some r0) (kk : ∀ v, K v = some r0 → W p l e R s m args below meth c H locs cells slots Q (F0 m (pc + 1) ls (.int v :: rest))) : W p l e R s m args below meth c H locs cells slots Q (F0 m pc ls (.int i :: .ref a :: rest)) := by
  obtain ⟨⟨N, hs, hin⟩, h⟩ := chk_some h
  have hlt : i.toNatClampNeg < N := Nat.not_le.mp fun q => hin (Or.inr q)
  obtain ⟨hx, hb, -⟩ := C
  exact W.zald (v := .int (M.1 a i.toNatClampNeg)) hx hb (hP a _ hs).2.1 ((hK.arr (ti := 3) (by decide)).1 N _) (fun q => by cases q) (arr_in hin) (by rw [arrV_read _ _ hlt]; rfl) rfl rfl hdg (kk _ h)
theorem r_aL (C : CallFix p m c cc nL s args GW own) (hK : KK G s) (hP : HM G Sh M H) {i : Int32} (hdg : decode cc pc = .ok (.laload, 1))
    {K : Int64 → Option ρ} (h : aL Sh M a i K = some r0) (kk : ∀ v, K v = some r0 → W p l e R s m args below meth c H locs cells slots Q (F0 m (pc + 1) ls (.long v :: rest))) : W p l e R s m args below meth c H locs cells slots Q (F0 m pc ls (.int i :: .ref a :: rest)) := by
  obtain ⟨⟨N, hs, hin⟩, h⟩ := chk_some h
  have hlt : i.toNatClampNeg < N := Nat.not_le.mp fun q => hin (Or.inr q)
  obtain ⟨hx, hb, -⟩ := C
  exact W.lald (v := .long (M.2.2 a i.toNatClampNeg)) hx hb (hP a _ hs).2.1 ((hK.arr (ti := 2) (by decide)).1 N _) (fun q => by cases q) (arr_in hin) (by rw [arrV_read _ _ hlt]; rfl) rfl rfl hdg (kk _ h)
theorem r_aR4 (C : CallFix p m c cc nL s args GW own) (hK : KK G s) (hP : HM G Sh M H) {i : Int32} (hdg : decode cc pc = .ok (.aaload, 1))
    {K : Nat → Option ρ} (h : aR Sh M a 4 i K = some r0) (kk : ∀ v, K v = some r0 → W p l e R s m args below meth c H locs cells slots Q (F0 m (pc + 1) ls (.ref v :: rest))) : W p l e R s m args below meth c H locs cells slots Q (F0 m pc ls (.int i :: .ref a :: rest)) := by
  obtain ⟨⟨N, hs, hin⟩, h⟩ := chk_some h
  obtain ⟨b, hbb, h⟩ := gR_some h
  have hlt : i.toNatClampNeg < N := Nat.not_le.mp fun q => hin (Or.inr q)
  obtain ⟨hx, hb, -⟩ := C
  exact W.aald (v := .ref b) (ty := .object "SpokenTree$Words") hx hb (hP a _ hs).2.1 ((hK.arr (ti := 4) (by decide)).1 N _) rfl (fun q => by cases q) (arr_in hin) (by rw [arrV_read _ _ hlt]; show some (va_rf (M.2.1 a i.toNatClampNeg)) = _; rw [hbb]; rfl) rfl rfl hdg (kk _ h)
theorem r_aR5 (C : CallFix p m c cc nL s args GW own) (hK : KK G s) (hP : HM G Sh M H) {i : Int32} (hdg : decode cc pc = .ok (.aaload, 1))
    {K : Nat → Option ρ} (h : aR Sh M a 5 i K = some r0) (kk : ∀ v, K v = some r0 → W p l e R s m args below meth c H locs cells slots Q (F0 m (pc + 1) ls (.ref v :: rest))) : W p l e R s m args below meth c H locs cells slots Q (F0 m pc ls (.int i :: .ref a :: rest)) := by
  obtain ⟨⟨N, hs, hin⟩, h⟩ := chk_some h
  obtain ⟨b, hbb, h⟩ := gR_some h
  have hlt : i.toNatClampNeg < N := Nat.not_le.mp fun q => hin (Or.inr q)
  obtain ⟨hx, hb, -⟩ := C
  exact W.aald (v := .ref b) (ty := .object "SpokenTree$Scene") hx hb (hP a _ hs).2.1 ((hK.arr (ti := 5) (by decide)).1 N _) rfl (fun q => by cases q) (arr_in hin) (by rw [arrV_read _ _ hlt]; show some (va_rf (M.2.1 a i.toNatClampNeg)) = _; rw [hbb]; rfl) rfl rfl hdg (kk _ h)
theorem r_aN (C : CallFix p m c cc nL s args GW own) (hK : KK G s) (hP : HM G Sh M H) (hdg : decode cc pc = .ok (.arraylength, 1))
    {K : Int32 → Option ρ} (h : aN Sh a K = some r0) (kk : ∀ v, K v = some r0 → W p l e R s m args below meth c H locs cells slots Q (F0 m (pc + 1) ls (.int v :: rest))) : W p l e R s m args below meth c H locs cells slots Q (F0 m pc ls (.ref a :: rest)) := by
  obtain ⟨q, hs, h⟩ := aN_some h
  obtain ⟨hx, hb, -⟩ := C
  obtain ⟨-, h1, h2, -⟩ := hP a _ hs
  exact W.alen hx hb h1 ((hK.arr h2).1 q.2 _) (n := Int32.ofNat q.2) (by rw [arrV_size]) rfl rfl hdg (kk _ h)
/-- an array of numbers is written: what the heap holds then -/
theorem r_st {ti N k : Nat} {i : Int32} {M' : Mm} {v : Value} {H1 : Heap} (hP : HM G Sh M H) (hS : SS G s nx H locs) (hs : Sh a = some (.inr (ti, N))) (e : H1[a]? = some ((arrV (G.2.2.1 ti) N (fun j => vK M (aKd ti) a j)).setSlot k v)) (z : H1.size = H.size) (oq : ∀ q : Nat, q ≠ a → H1[q]? = H[q]?)
    (hv : vK M' (aKd ti) a k = v) (ho : ∀ j, j ≠ k → vK M' (aKd ti) a j = vK M (aKd ti) a j) (e1 : ∀ b, b ≠ a → M'.1 b = M.1 b) (e2 : ∀ b, b ≠ a → M'.2.1 b = M.2.1 b) (e3 : ∀ b, b ≠ a → M'.2.2 b = M.2.2 b) (hn : ti = 1 → ∀ j, fits .char (.int (M'.1 a j)) = true) : HM G Sh M' H1 ∧ SS G s nx H1 (locs ++ [⟨a, k⟩]) := by
  obtain ⟨hba, h1, h2, h3⟩ := hP a _ hs
  refine ⟨hP.set hs ⟨?_, h2, hn⟩ oq e1 e2 e3, hS.put z oq hba⟩
  rw [e, arrV_store]
  congr 2
  funext j
  by_cases hj : j = k
  · subst hj
    simp [updV, hv]
  · simp [updV, hj, ho j hj]
theorem r_sI (C : CallFix p m c cc nL s args GW own) (hK : KK G s) (hP : HM G Sh M H) (hS : SS G s nx H locs) {i v : Int32} (hdg : decode cc pc = .ok (.iastore, 1))
    {K : Mm → Option ρ} (h : sI Sh M a i v K = some r0) (kk : ∀ (M' : Mm) (H1 : Heap) (locs1 : List Loc), K M' = some r0 → HM G Sh M' H1 → SS G s nx H1 locs1 → W p l e R s m args below meth c H1 locs1 cells slots Q (F0 m (pc + 1) ls rest)) : W p l e R s m args below meth c H locs cells slots Q (F0 m pc ls (.int v :: .int i :: .ref a :: rest)) := by
  obtain ⟨⟨N, hs, hin⟩, h⟩ := chk_some h
  obtain ⟨hx, hb, -⟩ := C
  refine W.iast hx hb (hP a _ hs).2.1 ((hK.arr (ti := 0) (by decide)).1 N _) (fun q => by cases q) (arr_in hin) rfl rfl hdg fun H1 g z oq => ?_
  obtain ⟨h1, h2⟩ := r_st (s := s) (locs := locs) hP hS hs g z oq (M' := uI M a i.toNatClampNeg v) (vK_uI _ _ _ _) (fun j hj => vK_uIo _ _ _ _ _ j hj) (uI_o _ _ _ _) (fun _ _ => rfl) (fun _ _ => rfl) (fun q => by cases q) (i := i)
  exact kk _ H1 _ h h1 h2
theorem fit_c (x : Int32) : fits .char (.int (vp_nar .char x)) = true := by
  have h := pk_fc x
  have e : vp_nar .char x = (x.toUInt32 % 65536).toInt32 := by
    rw [vp_nar_char]
    simp
  rw [e]
  exact h
theorem r_sC (C : CallFix p m c cc nL s args GW own) (hK : KK G s) (hP : HM G Sh M H) (hS : SS G s nx H locs) {i v : Int32} (hdg : decode cc pc = .ok (.castore, 1))
    {K : Mm → Option ρ} (h : sC Sh M a i v K = some r0) (kk : ∀ (M' : Mm) (H1 : Heap) (locs1 : List Loc), K M' = some r0 → HM G Sh M' H1 → SS G s nx H1 locs1 → W p l e R s m args below meth c H1 locs1 cells slots Q (F0 m (pc + 1) ls rest)) : W p l e R s m args below meth c H locs cells slots Q (F0 m pc ls (.int v :: .int i :: .ref a :: rest)) := by
  obtain ⟨⟨N, hs, hin⟩, h⟩ := chk_some h
  obtain ⟨hx, hb, -⟩ := C
  refine W.cast hx hb (hP a _ hs).2.1 ((hK.arr (ti := 1) (by decide)).1 N _) (fun q => by cases q) (arr_in hin) rfl rfl hdg fun H1 g z oq => ?_
  obtain ⟨h1, h2⟩ := r_st (s := s) (locs := locs) hP hS hs g z oq (M' := uI M a i.toNatClampNeg (vp_nar .char v)) ((vK_uI _ _ _ _).trans rfl) (fun j hj => vK_uIo _ _ _ _ _ j hj) (uI_o _ _ _ _) (fun _ _ => rfl) (fun _ _ => rfl) (fun _ j => by
    by_cases hj : j = i.toNatClampNeg
    · subst hj
      simp only [uI, wI, upd, if_true]
      exact fit_c v
    · have := (hP a _ hs).2.2.2 rfl j
      simpa [uI, wI, upd, hj] using this) (i := i)
  exact kk _ H1 _ h h1 h2
theorem r_sZ (C : CallFix p m c cc nL s args GW own) (hK : KK G s) (hP : HM G Sh M H) (hS : SS G s nx H locs) {i v : Int32} (hdg : decode cc pc = .ok (.bastore, 1))
    {K : Mm → Option ρ} (h : sZ Sh M a i v K = some r0) (kk : ∀ (M' : Mm) (H1 : Heap) (locs1 : List Loc), K M' = some r0 → HM G Sh M' H1 → SS G s nx H1 locs1 → W p l e R s m args below meth c H1 locs1 cells slots Q (F0 m (pc + 1) ls rest)) : W p l e R s m args below meth c H locs cells slots Q (F0 m pc ls (.int v :: .int i :: .ref a :: rest)) := by
  obtain ⟨⟨N, hs, hin⟩, h⟩ := chk_some h
  obtain ⟨hx, hb, -⟩ := C
  refine W.zast hx hb (hP a _ hs).2.1 ((hK.arr (ti := 3) (by decide)).1 N _) (fun q => by cases q) (arr_in hin) rfl rfl hdg fun H1 g z oq => ?_
  obtain ⟨h1, h2⟩ := r_st (s := s) (locs := locs) hP hS hs g z oq (M' := uI M a i.toNatClampNeg (vp_nar .boolean v)) ((vK_uI _ _ _ _).trans rfl) (fun j hj => vK_uIo _ _ _ _ _ j hj) (uI_o _ _ _ _) (fun _ _ => rfl) (fun _ _ => rfl) (fun q => by cases q) (i := i)
  exact kk _ H1 _ h h1 h2
theorem r_sL (C : CallFix p m c cc nL s args GW own) (hK : KK G s) (hP : HM G Sh M H) (hS : SS G s nx H locs) {i : Int32} {v : Int64} (hdg : decode cc pc = .ok (.lastore, 1))
    {K : Mm → Option ρ} (h : sL Sh M a i v K = some r0) (kk : ∀ (M' : Mm) (H1 : Heap) (locs1 : List Loc), K M' = some r0 → HM G Sh M' H1 → SS G s nx H1 locs1 → W p l e R s m args below meth c H1 locs1 cells slots Q (F0 m (pc + 1) ls rest)) : W p l e R s m args below meth c H locs cells slots Q (F0 m pc ls (.long v :: .int i :: .ref a :: rest)) := by
  obtain ⟨⟨N, hs, hin⟩, h⟩ := chk_some h
  obtain ⟨hx, hb, -⟩ := C
  refine W.last hx hb (hP a _ hs).2.1 ((hK.arr (ti := 2) (by decide)).1 N _) (fun q => by cases q) (arr_in hin) rfl rfl hdg fun H1 g z oq => ?_
  obtain ⟨h1, h2⟩ := r_st (s := s) (locs := locs) hP hS hs g z oq (M' := uL M a i.toNatClampNeg v) (by simp [vK, aKd, uL, vp_updL]) (fun j hj => by simp [vK, aKd, uL, vp_updL, hj]) (fun _ _ => rfl) (fun _ _ => rfl) (fun b hb => by simp [uL, hb]) (fun q => by cases q) (i := i)
  exact kk _ H1 _ h h1 h2
theorem aKd_r {ti : Nat} (h : ti = 4 ∨ ti = 5) : aKd ti = 1 := by rcases h with rfl | rfl <;> rfl
theorem r_sR (C : CallFix p m c cc nL s args GW own) (hK : KK G s) (hP : HM G Sh M H) (hS : SS G s nx H locs) {i : Int32} {b ti ci N : Nat} {Cn : String} {T : u_T} (hti : ti = 4 ∨ ti = 5) (hc : CLS ci Cn T N) (hty : aTy ti = .object Cn) (hdg : decode cc pc = .ok (.aastore, 1))
    {K : Mm → Option ρ} (h : sR Sh M a ti ci i b K = some r0) (kk : ∀ (M' : Mm) (H1 : Heap) (locs1 : List Loc), K M' = some r0 → HM G Sh M' H1 → SS G s nx H1 locs1 → W p l e R s m args below meth c H1 locs1 cells slots Q (F0 m (pc + 1) ls rest)) : W p l e R s m args below meth c H locs cells slots Q (F0 m pc ls (.ref b :: .int i :: .ref a :: rest)) := by
  obtain ⟨⟨⟨N1, hs, hin⟩, hsb⟩, h⟩ := chk_some h
  obtain ⟨hx, hb, -⟩ := C
  have hlt : i.toNatClampNeg < N1 := Nat.not_le.mp fun q => hin (Or.inr q)
  have h0 : ¬ i < 0 := fun q => hin (Or.inl q)
  obtain ⟨-, r', hr', cellV, g1, g2, g3, -⟩ := hP b _ hsb
  have hcls := (hK.1 ci _ hc.1).2
  have h6 : ti < 6 := by rcases hti with rfl | rfl <;> decide
  have hra := (hK.arr h6).2
  rw [hty] at hra
  obtain ⟨kA, comp, k1, k2, k3, -⟩ := hra
  have hcomp : comp = G.2.1.1 ci := Option.some.inj (k3.symm.trans hcls.1)
  subst hcomp
  obtain ⟨kC, hkC, -⟩ := hcls.2
  refine W.aast hx hb (hP a _ hs).2.1 (fun q h => by cases h) (fun h => by cases h) k1 k2 rfl hkC ⟨h0, by show _ < (arrV _ _ _).slots.size; rw [arrV_size]; exact hlt⟩ g1 (fun q h => by rw [g3] at h; cases h) (by rw [g2]; exact hkC) (by rw [g2]; exact va_assign hcls) rfl rfl hdg fun H1 g z oq => ?_
  obtain ⟨h1, h2⟩ := r_st (s := s) (locs := locs) hP hS hs g z oq (M' := uR M a i.toNatClampNeg (some b)) (by rw [aKd_r hti]; simp [vK, uR, va_up, va_rf]) (fun j hj => by rw [aKd_r hti]; simp [vK, uR, va_up, hj]) (fun _ _ => rfl) (fun b hb => by simp [uR, hb]) (fun _ _ => rfl) (fun q => by rcases hti with rfl | rfl <;> cases q) (i := i)
  exact kk _ H1 _ h h1 h2
-- branches
theorem b_eq (C : CallFix p m c cc nL s args GW own) {x : Int32} {off : Int} {tgt : Nat} (hdg : decode cc pc = .ok (.ifCond .eq off, 3)) (ht : (pc : Int) + off = (tgt : Int)) {X Y : Option ρ} (h : (if x = 0 then X else Y) = some r0)
    (k1 : X = some r0 → W p l e R s m args below meth c H locs cells slots Q (F0 m tgt ls rest)) (k2 : Y = some r0 → W p l e R s m args below meth c H locs cells slots Q (F0 m (pc + 3) ls rest)) : W p l e R s m args below meth c H locs cells slots Q (F0 m pc ls (.int x :: rest)) :=
  lv_if_eq C.1 C.2.1 hdg ht (fun q => k1 (by rw [if_pos q] at h; exact h)) (fun q => k2 (by rw [if_neg q] at h; exact h))
theorem b_ne (C : CallFix p m c cc nL s args GW own) {x : Int32} {off : Int} {tgt : Nat} (hdg : decode cc pc = .ok (.ifCond .ne off, 3)) (ht : (pc : Int) + off = (tgt : Int)) {X Y : Option ρ} (h : (if x = 0 then X else Y) = some r0)
    (k1 : X = some r0 → W p l e R s m args below meth c H locs cells slots Q (F0 m (pc + 3) ls rest)) (k2 : Y = some r0 → W p l e R s m args below meth c H locs cells slots Q (F0 m tgt ls rest)) : W p l e R s m args below meth c H locs cells slots Q (F0 m pc ls (.int x :: rest)) :=
  lv_if_ne C.1 C.2.1 hdg ht (fun q => k2 (by rw [if_neg q] at h; exact h)) (fun q => k1 (by rw [if_pos q] at h; exact h))
theorem b_lt (C : CallFix p m c cc nL s args GW own) {x : Int32} {off : Int} {tgt : Nat} (hdg : decode cc pc = .ok (.ifCond .lt off, 3)) (ht : (pc : Int) + off = (tgt : Int)) {X Y : Option ρ} (h : (if x < 0 then X else Y) = some r0)
    (k1 : X = some r0 → W p l e R s m args below meth c H locs cells slots Q (F0 m tgt ls rest)) (k2 : Y = some r0 → W p l e R s m args below meth c H locs cells slots Q (F0 m (pc + 3) ls rest)) : W p l e R s m args below meth c H locs cells slots Q (F0 m pc ls (.int x :: rest)) :=
  lv_if_lt C.1 C.2.1 hdg ht (fun q => k1 (by rw [if_pos q] at h; exact h)) (fun q => k2 (by rw [if_neg q] at h; exact h))
theorem b_ge (C : CallFix p m c cc nL s args GW own) {x : Int32} {off : Int} {tgt : Nat} (hdg : decode cc pc = .ok (.ifCond .ge off, 3)) (ht : (pc : Int) + off = (tgt : Int)) {X Y : Option ρ} (h : (if x < 0 then X else Y) = some r0)
    (k1 : X = some r0 → W p l e R s m args below meth c H locs cells slots Q (F0 m (pc + 3) ls rest)) (k2 : Y = some r0 → W p l e R s m args below meth c H locs cells slots Q (F0 m tgt ls rest)) : W p l e R s m args below meth c H locs cells slots Q (F0 m pc ls (.int x :: rest)) :=
  lv_if_ge C.1 C.2.1 hdg ht (fun q => k2 (by rw [if_neg (Int32.not_lt.mpr q)] at h; exact h)) (fun q => k1 (by rw [if_pos (Int32.not_le.mp q)] at h; exact h))
theorem b_le (C : CallFix p m c cc nL s args GW own) {x : Int32} {off : Int} {tgt : Nat} (hdg : decode cc pc = .ok (.ifCond .le off, 3)) (ht : (pc : Int) + off = (tgt : Int)) {X Y : Option ρ} (h : (if x ≤ 0 then X else Y) = some r0)
    (k1 : X = some r0 → W p l e R s m args below meth c H locs cells slots Q (F0 m tgt ls rest)) (k2 : Y = some r0 → W p l e R s m args below meth c H locs cells slots Q (F0 m (pc + 3) ls rest)) : W p l e R s m args below meth c H locs cells slots Q (F0 m pc ls (.int x :: rest)) :=
  lv_if_le C.1 C.2.1 hdg ht (fun q => k1 (by rw [if_pos q] at h; exact h)) (fun q => k2 (by rw [if_neg q] at h; exact h))
theorem b_gt (C : CallFix p m c cc nL s args GW own) {x : Int32} {off : Int} {tgt : Nat} (hdg : decode cc pc = .ok (.ifCond .gt off, 3)) (ht : (pc : Int) + off = (tgt : Int)) {X Y : Option ρ} (h : (if x ≤ 0 then X else Y) = some r0)
    (k1 : X = some r0 → W p l e R s m args below meth c H locs cells slots Q (F0 m (pc + 3) ls rest)) (k2 : Y = some r0 → W p l e R s m args below meth c H locs cells slots Q (F0 m tgt ls rest)) : W p l e R s m args below meth c H locs cells slots Q (F0 m pc ls (.int x :: rest)) :=
  lv_if_gt C.1 C.2.1 hdg ht (fun q => k2 (by rw [if_neg (Int32.not_le.mpr q)] at h; exact h)) (fun q => k1 (by rw [if_pos (Int32.not_lt.mp q)] at h; exact h))
theorem b_ieq (C : CallFix p m c cc nL s args GW own) {x y : Int32} {off : Int} {tgt : Nat} (hdg : decode cc pc = .ok (.if_icmp .eq off, 3)) (ht : (pc : Int) + off = (tgt : Int)) {X Y : Option ρ} (h : (if x = y then X else Y) = some r0)
    (k1 : X = some r0 → W p l e R s m args below meth c H locs cells slots Q (F0 m tgt ls rest)) (k2 : Y = some r0 → W p l e R s m args below meth c H locs cells slots Q (F0 m (pc + 3) ls rest)) : W p l e R s m args below meth c H locs cells slots Q (F0 m pc ls (.int y :: .int x :: rest)) :=
  lv_icmp_eq C.1 C.2.1 hdg ht (fun q => k1 (by rw [if_pos q] at h; exact h)) (fun q => k2 (by rw [if_neg q] at h; exact h))
theorem b_ine (C : CallFix p m c cc nL s args GW own) {x y : Int32} {off : Int} {tgt : Nat} (hdg : decode cc pc = .ok (.if_icmp .ne off, 3)) (ht : (pc : Int) + off = (tgt : Int)) {X Y : Option ρ} (h : (if x = y then X else Y) = some r0)
    (k1 : X = some r0 → W p l e R s m args below meth c H locs cells slots Q (F0 m (pc + 3) ls rest)) (k2 : Y = some r0 → W p l e R s m args below meth c H locs cells slots Q (F0 m tgt ls rest)) : W p l e R s m args below meth c H locs cells slots Q (F0 m pc ls (.int y :: .int x :: rest)) :=
  lv_icmp_ne C.1 C.2.1 hdg ht (fun q => k2 (by rw [if_neg q] at h; exact h)) (fun q => k1 (by rw [if_pos q] at h; exact h))
theorem b_ilt (C : CallFix p m c cc nL s args GW own) {x y : Int32} {off : Int} {tgt : Nat} (hdg : decode cc pc = .ok (.if_icmp .lt off, 3)) (ht : (pc : Int) + off = (tgt : Int)) {X Y : Option ρ} (h : (if x < y then X else Y) = some r0)
    (k1 : X = some r0 → W p l e R s m args below meth c H locs cells slots Q (F0 m tgt ls rest)) (k2 : Y = some r0 → W p l e R s m args below meth c H locs cells slots Q (F0 m (pc + 3) ls rest)) : W p l e R s m args below meth c H locs cells slots Q (F0 m pc ls (.int y :: .int x :: rest)) :=
  lv_icmp_lt C.1 C.2.1 hdg ht (fun q => k1 (by rw [if_pos q] at h; exact h)) (fun q => k2 (by rw [if_neg q] at h; exact h))
theorem b_ige (C : CallFix p m c cc nL s args GW own) {x y : Int32} {off : Int} {tgt : Nat} (hdg : decode cc pc = .ok (.if_icmp .ge off, 3)) (ht : (pc : Int) + off = (tgt : Int)) {X Y : Option ρ} (h : (if x < y then X else Y) = some r0)
    (k1 : X = some r0 → W p l e R s m args below meth c H locs cells slots Q (F0 m (pc + 3) ls rest)) (k2 : Y = some r0 → W p l e R s m args below meth c H locs cells slots Q (F0 m tgt ls rest)) : W p l e R s m args below meth c H locs cells slots Q (F0 m pc ls (.int y :: .int x :: rest)) :=
  lv_icmp_ge C.1 C.2.1 hdg ht (fun q => k2 (by rw [if_neg (Int32.not_lt.mpr q)] at h; exact h)) (fun q => k1 (by rw [if_pos (Int32.not_le.mp q)] at h; exact h))
theorem b_ile (C : CallFix p m c cc nL s args GW own) {x y : Int32} {off : Int} {tgt : Nat} (hdg : decode cc pc = .ok (.if_icmp .le off, 3)) (ht : (pc : Int) + off = (tgt : Int)) {X Y : Option ρ} (h : (if x ≤ y then X else Y) = some r0)
    (k1 : X = some r0 → W p l e R s m args below meth c H locs cells slots Q (F0 m tgt ls rest)) (k2 : Y = some r0 → W p l e R s m args below meth c H locs cells slots Q (F0 m (pc + 3) ls rest)) : W p l e R s m args below meth c H locs cells slots Q (F0 m pc ls (.int y :: .int x :: rest)) :=
  lv_icmp_le C.1 C.2.1 hdg ht (fun q => k1 (by rw [if_pos q] at h; exact h)) (fun q => k2 (by rw [if_neg q] at h; exact h))
theorem b_igt (C : CallFix p m c cc nL s args GW own) {x y : Int32} {off : Int} {tgt : Nat} (hdg : decode cc pc = .ok (.if_icmp .gt off, 3)) (ht : (pc : Int) + off = (tgt : Int)) {X Y : Option ρ} (h : (if x ≤ y then X else Y) = some r0)
    (k1 : X = some r0 → W p l e R s m args below meth c H locs cells slots Q (F0 m (pc + 3) ls rest)) (k2 : Y = some r0 → W p l e R s m args below meth c H locs cells slots Q (F0 m tgt ls rest)) : W p l e R s m args below meth c H locs cells slots Q (F0 m pc ls (.int y :: .int x :: rest)) :=
  lv_icmp_gt C.1 C.2.1 hdg ht (fun q => k2 (by rw [if_neg (Int32.not_le.mpr q)] at h; exact h)) (fun q => k1 (by rw [if_pos (Int32.not_lt.mp q)] at h; exact h))
end CORE2
