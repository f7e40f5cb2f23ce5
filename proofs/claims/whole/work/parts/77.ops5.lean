/-! ===== LEVEL 2: step, dialogs ===== -/
section OPS5
variable {Sh : Sp} {M M' N N' : Mm} {B μ ρ σ c n : Nat} {rs : List Sc} {buf : List Int32} {A A' : At} {K K' : Kt} {W W' : Wt} {Q Q' : List QI} {sp : List Int32} {fo rd la la' : Int32} {L : List Nat} {cur : Int32} {idx : Nat}
theorem find_idx (hd : L.Nodup) (hx : ∀ x ∈ L, x < 2 ^ 31) (cur : Int32) : ∃ idx, idx ≤ L.length ∧ ∀ i (h : i < L.length), nI L[i] = cur ↔ i = idx := by
  by_cases c : ∃ i, ∃ h : i < L.length, nI L[i] = cur
  · obtain ⟨i, h, e⟩ := c
    refine ⟨i, by omega, fun k hk => ⟨fun y => ?_, fun y => by subst y; exact e⟩⟩
    have e1 := nI_inj (hx _ (List.getElem_mem hk)) (hx _ (List.getElem_mem h)) (y.trans e.symm)
    have a1 := idx_get hd (r := k) (k := L[i]) (by rw [List.getElem?_eq_getElem hk, e1])
    have a2 := idx_get hd (r := i) (k := L[i]) (by rw [List.getElem?_eq_getElem h])
    omega
  · exact ⟨L.length, Nat.le_refl _, fun i h => ⟨fun y => absurd ⟨i, h, y⟩ c, fun y => by omega⟩⟩
theorem c_find (hR : RNG Sh M.2.1 ρ σ) (hL : RO M ρ L) (hl : L.length ≤ 24) (hn : 24 < n) (hi : idx ≤ L.length) (hh : ∀ i (h : i < L.length), nI L[i] = cur ↔ i = idx) : fX2_find n Sh M ρ cur = some (if idx < L.length then nI idx else -1) := by
  unfold fX2_find fX2_find_2
  obtain ⟨r, e, q⟩ := iter_inv (f := fun s => fX2_find_2b n Sh M ρ cur s) 24 (fun j s => s = nI j ∧ j ≤ idx) (fun r => r = if idx < L.length then nI idx else -1) (fun j s hj hI => by
    obtain ⟨rfl, hI⟩ := hI
    unfold fX2_find_2b
    simp only [tI_of, hL.1, lt_nI (show j < 2 ^ 31 by omega) (show L.length < 2 ^ 31 by omega)]
    by_cases c : j < L.length
    · rw [if_pos c, bind_of (c_at hR hL hl _), kAt_nI (by omega), List.getElem?_eq_getElem c, show oi (some L[j]) = nI L[j] from rfl]
      by_cases c2 : nI L[j] = cur
      · rw [if_pos c2]
        have := (hh j c).mp c2
        subst this
        exact Or.inr ⟨_, rfl, by rw [if_pos c]⟩
      · rw [if_neg c2]
        have : j ≠ idx := fun y => c2 ((hh j c).mpr y)
        exact Or.inl ⟨by omega, _, rfl, nI_add1 j, by omega⟩
    · rw [if_neg c]
      exact Or.inr ⟨_, rfl, by rw [if_neg (by omega)]⟩) hn (s := 0) ⟨rfl, Nat.zero_le _⟩
  rw [e, q]
/-- where one steps to -/
def stI (len idx : Nat) (back : Bool) : Nat := if idx < len then (idx + (if back then len - 1 else 1)) % len else (if back then len - 1 else 0)
theorem stI_lt {len idx : Nat} (h : 0 < len) (back : Bool) : stI len idx back < len := by
  unfold stI
  by_cases c : idx < len
  · rw [if_pos c]; exact Nat.mod_lt _ h
  · rw [if_neg c]; cases back <;> simp <;> omega
theorem c_beside' (hR : RNG Sh M.2.1 ρ σ) (hL : RO M ρ L) (hl : L.length ≤ 24) (hn : 24 < n) (hi : idx ≤ L.length) (hh : ∀ i (h : i < L.length), nI L[i] = cur ↔ i = idx) (back : Bool) : fX2_beside n Sh M ρ cur (if back then 1 else 0) = some (kAt L (nI (stI L.length idx back))) := by
  unfold fX2_beside fX2_beside_27 fX2_beside_49
  rw [bind_of (c_find hR hL hl hn hi hh)]
  have at' : ∀ v : Int32, ((chk (Sh ρ = some (.inl 2)) <| (fX2_at n Sh M ρ v).bind fun r1 => some r1) : Option Int32) = some (kAt L v) := fun v => by rw [chk_pos hR.1, bind_of (c_at hR hL hl v)]
  simp only [tI_of, hL.1, at']
  cases back with
  | false =>
    rw [if_pos (show (if false = true then (1 : Int32) else 0) = 0 from rfl)]
    unfold stI
    by_cases c : idx < L.length
    · rw [if_pos c, if_pos c, nI_add1]
      simp only [lt_nI (show idx + 1 < 2 ^ 31 by omega) (show L.length < 2 ^ 31 by omega)]
      by_cases c2 : idx + 1 < L.length
      · rw [if_pos c2]
        show _ = some (kAt L (nI ((idx + 1) % L.length)))
        rw [Nat.mod_eq_of_lt c2]
      · rw [if_neg c2]
        show _ = some (kAt L (nI ((idx + 1) % L.length)))
        rw [show idx + 1 = L.length from by omega, Nat.mod_self]
        rfl
    · rw [if_neg c, if_neg c, show (-1 : Int32) + 1 = nI 0 from rfl]
      by_cases c2 : nI 0 < nI L.length
      · rw [if_pos c2]; rfl
      · rw [if_neg c2]; rfl
  | true =>
    rw [if_neg (show ¬ (if true = true then (1 : Int32) else 0) = 0 by decide)]
    unfold stI
    by_cases c : idx < L.length
    · rw [if_pos c, if_pos c]
      simp only [nI_le0 (show idx < 2 ^ 31 by omega)]
      by_cases c2 : idx = 0
      · rw [if_pos c2]
        show _ = some (kAt L (nI ((idx + (L.length - 1)) % L.length)))
        rw [nI_sub1 (by omega), c2, Nat.zero_add, Nat.mod_eq_of_lt (by omega)]
      · rw [if_neg c2]
        show _ = some (kAt L (nI ((idx + (L.length - 1)) % L.length)))
        rw [nI_sub1 (by omega), show idx + (L.length - 1) = (idx - 1) + L.length from by omega, Nat.add_mod_right, Nat.mod_eq_of_lt (by omega)]
    · rw [if_neg c, if_neg c, if_pos (by decide)]
      show _ = some (kAt L (nI (L.length - 1)))
      by_cases c2 : L = []
      · subst c2
        rfl
      · have : 0 < L.length := List.length_pos_iff.mpr c2
        rw [nI_sub1 this]
theorem m_step45 (hL : ML Sh N.2.1 μ) (hO : MO N μ L) (hl : L.length ≤ 24) (h0 : 0 < L.length) (hn : 24 < n) (hi : idx ≤ L.length) (hh : ∀ i (h : i < L.length), nI L[i] = cur ↔ i = idx) (back : Bool) {r : Int32 × Mm} (hr : fX7_step_98 n Sh μ (if back then 1 else 0) N (nI (stI L.length idx back)) = some r) : fX7_step_45 n Sh μ (if back then 1 else 0) N cur (if back then nI L.length - 1 else 0) 0 = some r := by
  unfold fX7_step_45
  have hst : ∀ k, nI (if idx < k ∧ idx < L.length then stI L.length idx back else (if back then L.length - 1 else 0)) = nI (if idx < k ∧ idx < L.length then stI L.length idx back else (if back then L.length - 1 else 0)) := fun _ => rfl
  refine iter_seq (N := L.length) (fun k => (nI (if idx < k ∧ idx < L.length then stI L.length idx back else (if back then L.length - 1 else 0)), nI k)) (fun k hk => ?_) ?_ (by omega) ?_
  · unfold fX7_step_45b fX7_step_81 fX7_step_91
    dsimp only
    simp only [tI_of, hO.1, lt_nI (show k < 2 ^ 31 by omega) (show L.length < 2 ^ 31 by omega), if_pos hk]
    rw [tF_of hL.2.1.2.2.2.2.2, aI_nI hL.2.2.2.2.2.2.2 (by omega) (by decide), hO.2.get hk]
    by_cases c : nI L[k] = cur
    · have e := (hh k hk).mp c
      subst e
      have ne0 : ¬ nI L.length = 0 := fun y => by have := nI_inj (b := 0) (by omega) (by decide) y; omega
      rw [if_pos c, chk_pos ne0, chk_pos ne0, if_pos (show k < k + 1 ∧ k < L.length from ⟨Nat.lt_succ_self k, hk⟩), nI_add1, nI_sub1 h0, nI_addm]
      have es : stI L.length k back = (k + (if back then L.length - 1 else 1)) % L.length := if_pos hk
      cases back with
      | false =>
        rw [if_pos (show (if false = true then (1 : Int32) else 0) = 0 from rfl), nI_mod (by omega) (by omega) h0, es]
        rfl
      | true =>
        rw [if_neg (show ¬ (if true = true then (1 : Int32) else 0) = 0 by decide), nI_mod (by omega) (by omega) h0, es]
        rfl
    · have ne : k ≠ idx := fun y => c ((hh k hk).mpr y)
      rw [if_neg c, nI_add1]
      by_cases c2 : idx < k ∧ idx < L.length
      · rw [if_pos c2, if_pos (show idx < k + 1 ∧ idx < L.length from ⟨by omega, c2.2⟩)]
      · rw [if_neg c2, if_neg (show ¬ (idx < k + 1 ∧ idx < L.length) from fun y => c2 ⟨by omega, y.2⟩)]
  · unfold fX7_step_45b
    dsimp only
    simp only [tI_of, hO.1, lt_nI (show L.length < 2 ^ 31 by omega) (show L.length < 2 ^ 31 by omega)]
    rw [if_neg (Nat.lt_irrefl _)]
    have e : (if idx < L.length ∧ idx < L.length then stI L.length idx back else (if back then L.length - 1 else 0)) = stI L.length idx back := by
      by_cases c : idx < L.length
      · rw [if_pos ⟨c, c⟩]
      · rw [if_neg (fun y => c y.1)]
        unfold stI
        rw [if_neg c]
    rw [e, hr]
    rfl
  · rw [if_neg (show ¬ (idx < 0 ∧ idx < L.length) from fun y => Nat.not_lt_zero _ y.1)]
    cases back with
    | false => rfl
    | true =>
      show (nI L.length - 1, 0) = (nI (L.length - 1), nI 0)
      rw [nI_sub1 h0]
      rfl
theorem op_step {z : Sc} (hI : SIall c z rs) (hn : 20000 < n) (back : Bool) : OPV Sh B c z rs buf (fun M => fX6_step n Sh M B (if back then 1 else 0)) (fun N => fX7_step n Sh N (B + 833) (if back then 1 else 0)) := by
  obtain ⟨A, K, W, Q, sp, fo, rd, la⟩ := z
  have hS : SI c A K W Q fo rd la := hI.1
  have hW := hS.1
  have hA := hS.2.1
  have hN' := hS.2.2.1
  have hfo := hS.2.2.2.2.1
  have hlen := ordL_len (A := A) hW
  obtain ⟨idx, hi, hh⟩ := find_idx (ordL_nodup (A := A) hW) (fun x hx => (ordL_live hW hx).lt) (focV A fo)
  -- the class as far as the target
  have goX : ∀ M, CX Sh M B (A, K, W, Q, sp, fo, rd, la) rs buf → ∃ M1, CX Sh M1 B (A, K, W, Q, sp, fo, rd, la) (kpR rs (A, K, W, Q, sp, fo, rd, la)) buf ∧ Ag (CR B) M M1 ∧ fX6_step n Sh M B (if back then 1 else 0) = if kAt (ordL A K) (nI (stI (ordL A K).length idx back)) = -1 then some (kAt (ordL A K) (nI (stI (ordL A K).length idx back)), M1) else tF M1 B 0 fun b8 => tF M1 B 6 fun b9 => chk (Sh b8 = some (.inl 3)) <| (fX3_giveFocus n Sh M1 b8 (kAt (ordL A K) (nI (stI (ordL A K).length idx back))) b9).bind fun r10 => some (kAt (ordL A K) (nI (stI (ordL A K).length idx back)), r10) := by
    intro M hM
    obtain ⟨M1, e1, k1, f1⟩ := x_keep (n := n) hM (by omega)
    obtain ⟨M2, e2, r2, k2, f2⟩ := x_fill (n := n) k1 hW hN' hn
    refine ⟨M2, k2, f1.tr ((f2.mono (fun a z => by unfold CR; omega)).toAg), ?_⟩
    unfold fX6_step
    rw [bind_of e1, tF_of k1.1.2.1.2.1, chk_pos k1.rng.1, bind_of e2, tF_of k2.1.2.1.2.1, tF_of k2.1.2.1.2.1, chk_pos k2.rng.1, bind_of (x_foc k2 hW hN' hn hfo), chk_pos k2.rng.1, bind_of (c_beside' k2.rng r2 hlen (by omega) hi hh back)]
  by_cases cl : ordL A K = []
  · have ek : kAt (ordL A K) (nI (stI (ordL A K).length idx back)) = -1 := by
      rw [cl]
      unfold kAt
      by_cases y : nI (stI ([] : List Nat).length idx back) < 0
      · rw [if_pos y]
      · rw [if_neg y]; rfl
    refine ⟨-1, (A, K, W, Q, sp, fo, rd, la), kpR rs (A, K, W, Q, sp, fo, rd, la), buf, fun M hM => ?_, fun N hN => ?_, ⟨hS.up, hI.keep⟩⟩
    · obtain ⟨M1, k1, f1, e1⟩ := goX M hM
      rw [ek, if_pos rfl] at e1
      exact ⟨M1, e1, k1, f1⟩
    · have h5 := hN.c5 0
      obtain ⟨N1, e1, k1, f1, c1⟩ := m_keep (n := n) h5 hI.wl hI.wls hn
      obtain ⟨N2, e2, r2, w2⟩ := m_layOrder (n := n) k1.1 k1.mp hW hN' (by omega)
      refine ⟨N2, ?_, k1.os w2, ((FM.u (by omega)).tr f1).tr w2.mc.fm⟩
      dsimp only
      unfold fX7_step
      rw [qI_of, bind_of e1, bind_of e2, tI_of, r2.1, cl, if_pos (show nI ([] : List Nat).length = 0 from rfl)]
  · have h0 : 0 < (ordL A K).length := List.length_pos_iff.mpr cl
    have hst := stI_lt (idx := idx) h0 back
    have hx := ordL_mem (List.getElem_mem hst)
    have hxl := ordL_live hW (List.getElem_mem hst)
    have ek : kAt (ordL A K) (nI (stI (ordL A K).length idx back)) = nI (ordL A K)[stI (ordL A K).length idx back] := by
      rw [kAt_nI (by omega), List.getElem?_eq_getElem hst]
      rfl
    have hge : ∀ (N : Mm), LW N (B + 833 + 6) (ordL A K) → N.1 (B + 833 + 6) (stI (ordL A K).length idx back) = nI (ordL A K)[stI (ordL A K).length idx back] := fun N h => h.get hst
    generalize (ordL A K)[stI (ordL A K).length idx back] = x at *
    refine ⟨nI x, (A, K, W, gfQ A K W Q x, sp, nI x, rd, la), kpR rs (A, K, W, Q, sp, fo, rd, la), buf, fun M hM => ?_, fun N hN => ?_, ⟨((hS.queue (gf_ok hS.2.2.2.1 hxl)).foc (Or.inr ⟨x, hxl, rfl⟩)).up, hI.keep⟩⟩
    · obtain ⟨M1, k1, f1, e1⟩ := goX M hM
      obtain ⟨M2, e2, k2, f2⟩ := x_give (n := n) k1 hW hA hn hxl
      rw [ek, if_neg (nI_ne_neg hxl.lt), tF_of k1.1.2.1.1, tF_of k1.1.2.1.2.2.2.2.2.1, chk_pos k1.2.1.1.1, bind_of e2] at e1
      exact ⟨M2, e1, k2, f1.tr f2⟩
    · have h5 := hN.c5 0
      obtain ⟨N1, e1, k1, f1, c1⟩ := m_keep (n := n) h5 hI.wl hI.wls hn
      obtain ⟨N2, e2, r2, w2⟩ := m_layOrder (n := n) k1.1 k1.mp hW hN' (by omega)
      have k2 := k1.os w2
      obtain ⟨N3, e3, k3, f3, c3⟩ := m_give (n := n) k2 hW hA hn hxl
      refine ⟨N3, ?_, k3, (((FM.u (by omega)).tr f1).tr w2.mc.fm).tr f3⟩
      have h98 : fX7_step_98 n Sh (B + 833) (if back then 1 else 0) N2 (nI (stI (ordL A K).length idx back)) = some (nI x, N3) := by
        unfold fX7_step_98
        rw [tF_of k2.1.2.1.2.2.2.2.2, aI_nI k2.1.2.2.2.2.2.2.2 (by omega) (by decide), hge N2 r2.2, bind_of e3, bind_of (m_foc k3 hW hN' hn (Or.inr ⟨x, hxl, rfl⟩)), focV_adm hxl hx.2]
      have h45 := m_step45 (n := n) k2.1 r2 hlen h0 (by omega) hi hh back h98
      dsimp only
      unfold fX7_step fX7_step_41
      rw [qI_of, bind_of e1, bind_of e2, tI_of, r2.1, if_neg (show ¬ nI (ordL A K).length = 0 from fun y => by have := nI_inj (b := 0) (by omega) (by decide) y; omega), bind_of (m_foc k2 hW hN' hn hfo)]
      cases back with
      | false => exact h45
      | true =>
        rw [if_neg (show ¬ (if true = true then (1 : Int32) else 0) = 0 by decide), tI_of, r2.1]
        exact h45
theorem x_treeL (h : CX Sh M B (A, K, W, Q, sp, fo, rd, la) rs buf) (f : AgI (fun a => B + 1 + 1 ≤ a ∧ a < B + 1 + 1 + 109) M M') (ht : CT Sh M' (B + 1 + 1) A' K' W') (hla : M'.1 (B + 1 + 1) 9 = la') : CX Sh M' B (A', K', W', Q, sp, fo, rd, la') rs buf ∧ Ag (CR B) M M' := by
  have h1 := h.cs.tree (f.mono (fun a z => by omega)) ht
  rw [hla] at h1
  have hz : CSc Sh M' (B + 1) (A', K', W', Q, sp, fo, rd, la') := h1
  obtain ⟨l, hw⟩ := h.2.2.2.2.2
  have fx : FX B M M' := FX.ig f (fun a z => by unfold NWr; omega)
  exact ⟨h.now fx hz ⟨l, hw.ag f (by omega) (by omega)⟩, fx.cr⟩
end OPS5
