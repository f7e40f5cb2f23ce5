/-! ===== LEVEL 2: the calls that change the nodes ===== -/
theorem min_free {A : At} (h : ¬ ∀ i, i < 24 → live A i) : ∃ j, j < 24 ∧ ¬ live A j ∧ ∀ i, i < j → live A i := by
  have key : ∀ m, (∀ i, i < m → live A i) ∨ ∃ j, j < m ∧ ¬ live A j ∧ ∀ i, i < j → live A i := by
    intro m
    induction m with
    | zero => exact Or.inl (fun i hi => absurd hi (Nat.not_lt_zero i))
    | succ m ih =>
      rcases ih with h | ⟨j, h1, h2, h3⟩
      · by_cases c : live A m
        · refine Or.inl (fun i hi => ?_)
          by_cases e : i = m
          · rw [e]; exact c
          · exact h i (by omega)
        · exact Or.inr ⟨m, Nat.lt_succ_self m, c, h⟩
      · exact Or.inr ⟨j, by omega, h2, h3⟩
  exact (key 24).resolve_left h
theorem kids_lt {A : At} {K : Kt} (hW : WF A K) {p j : Nat} (hp : live A p) (hj : j < 24) (hk : j ∉ K p) : (K p).length < 24 := by
  have := nodup_le 24 (j :: K p) (List.nodup_cons.mpr ⟨hk, hW.2.2.2.1 p hp⟩) (fun x hx => by
    rcases List.mem_cons.mp hx with e | hx
    · rw [e]; exact hj
    · exact (hW.2.2.1 p hp x hx).1.1)
  rw [List.length_cons] at this
  omega
section OPS2
variable {Sh : Sp} {M M' N N' : Mm} {B μ c n : Nat} {rs : List Sc} {buf : List Int32} {A A' : At} {K K' : Kt} {W W' : Wt} {Q Q' : List QI} {sp : List Int32} {fo rd la : Int32}
theorem CX.ct (h : CX Sh M B (A, K, W, Q, sp, fo, rd, la) rs buf) : CT Sh M (B + 1 + 1) A K W := h.tr'
theorem CX.cs (h : CX Sh M B (A, K, W, Q, sp, fo, rd, la) rs buf) : CS Sh M (B + 1) A K W Q sp fo rd la := h.2.1
theorem MX.mp (h : MX Sh N μ (A, K, W, Q, sp, fo, rd, la) rs buf) : MP (N.1 (μ + 1)) A K W := h.2.1.1
theorem MX.ms (h : MX Sh N μ (A, K, W, Q, sp, fo, rd, la) rs buf) : MS (N.1 (μ + 1)) A K W Q sp fo rd la := h.2.1
theorem x_reqA (h : CX Sh M B (A, K, W, Q, sp, fo, rd, la) rs buf) (v : Int32) : fX6_requireNode n Sh M B v = some (cif (isN A v) (.inr ()) (.inl "java/lang/IndexOutOfBoundsException")) := x_req h v
theorem x_tree (h : CX Sh M B (A, K, W, Q, sp, fo, rd, la) rs buf) (f : AgI (TS (B + 1 + 1)) M M') (ht : CT Sh M' (B + 1 + 1) A' K' W') : CX Sh M' B (A', K', W', Q, sp, fo, rd, la) rs buf ∧ Ag (CR B) M M' := by
  have hs : CS Sh M (B + 1) A K W Q sp fo rd la := h.2.1
  have hz : CSc Sh M' (B + 1) (A', K', W', Q, sp, fo, rd, la) := hs.treeS f ht
  obtain ⟨l, hw⟩ := h.2.2.2.2.2
  have fx : FX B M M' := FX.ig f (fun a z => by unfold TS at z; unfold NWr; omega)
  exact ⟨h.now fx hz ⟨l, hw.ag f (by unfold TS; omega) (by unfold TS; omega)⟩, fx.cr⟩
theorem x_sc {z z' : Sc} (h : CX Sh M B z rs buf) (f : Ag (SC (B + 1)) M M') (hz : CSc Sh M' (B + 1) z') : CX Sh M' B z' rs buf ∧ Ag (CR B) M M' := by
  obtain ⟨l, hw⟩ := h.2.2.2.2.2
  have fx : FX B M M' := ⟨f.mono (fun a z => by unfold SC at z; unfold NWr; omega), (f.2 (B + 138) (by unfold SC; omega)).2⟩
  exact ⟨h.now fx hz ⟨l, hw.Ag f (by unfold SC; omega) (by unfold SC; omega)⟩, fx.cr⟩
theorem m_tree (h : MX Sh N μ (A, K, W, Q, sp, fo, rd, la) rs buf) (p : PS μ (fun i => i < 720) N N') (hP : MP (N'.1 (μ + 1)) A' K' W') : MX Sh N' μ (A', K', W', Q, sp, fo, rd, la) rs buf ∧ FM μ N N' ∧ N'.1 μ 5 = N.1 μ 5 := by
  have hs : MS (N.1 (μ + 1)) A K W Q sp fo rd la := h.2.1
  have hz : MSc (N'.1 (μ + 1)) (A', K', W', Q, sp, fo, rd, la) := hs.tree p hP
  exact ⟨h.now p.mc hz, p.mc.fm, p.mc.2.2 5 (by decide) (by decide)⟩
theorem x_ann (h : CX Sh M B (A, K, W, Q, sp, fo, rd, la) rs buf) (hW : WF A K) (hA : WA A W) (hn : 20000 < n) {j : Nat} (hj : live A j) : ∃ M', fX3_announceChange n Sh M (B + 1) (nI j) (B + 145) = some M' ∧ CX Sh M' B (A, K, W, acQ A K W Q j, sp, fo, rd, la) rs buf ∧ Ag (CR B) M M' := by
  have hs : CS Sh M (B + 1) A K W Q sp fo rd la := h.2.1
  obtain ⟨M', e', r', s', f'⟩ := c_announceChange (n := n) hs hW hA (by omega) (show B + 1 + 137 ≤ B + 145 ∨ B + 145 + 2 ≤ B + 1 by omega) h.2.2.2.2.2 hj
  have hz : CSc Sh M' (B + 1) (A, K, W, acQ A K W Q j, sp, fo, rd, la) := r'
  exact ⟨M', e', h.now (FX.sc f') hz s', (FX.sc f').cr⟩
theorem m_ann (h : MX Sh N μ (A, K, W, Q, sp, fo, rd, la) rs buf) (hW : WF A K) (hA : WA A W) (hQ : QOK A Q) (hn : 20000 < n) {j : Nat} (hj : live A j) : ∃ N', fX7_announceChange n Sh N μ (nI j) = some N' ∧ MX Sh N' μ (A, K, W, acQ A K W Q j, sp, fo, rd, la) rs buf ∧ FM μ N N' ∧ N'.1 μ 5 = N.1 μ 5 := by
  have hs : MS (N.1 (μ + 1)) A K W Q sp fo rd la := h.2.1
  obtain ⟨N', e', r', c'⟩ := m_announceChange (n := n) h.1 hs hW hA hQ hn hj
  have hz : MSc (N'.1 (μ + 1)) (A, K, W, acQ A K W Q j, sp, fo, rd, la) := r'
  exact ⟨N', e', h.now c' hz, c'.fm, c'.2.2 5 (by decide) (by decide)⟩
theorem ac_ok (hW : WF A K) (hQ : QOK A Q) {j : Nat} (hj : live A j) : QOK A (acQ A K W Q j) := by
  unfold acQ
  by_cases c1 : regn A (nI j) = -1 ∨ ¬ shownP A (nI j)
  · rw [cif_pos c1]; exact hQ
  · rw [cif_neg c1]
    rcases regn_or hW _ (Or.inr ⟨j, hj, rfl⟩) with e | ⟨r, hr, e⟩
    · exact absurd (Or.inl e) c1
    · rw [e, nI_clamp hr.lt]
      have main : ∀ b, live A b → QOK A (acQ2 A K W Q r b) := by
        intro b hb
        unfold acQ2
        by_cases c2 : jns [] (partW A K W b) = []
        · rw [if_pos c2]; exact hQ
        · rw [if_neg c2]
          by_cases c3 : A r 8 = 3
          · rw [if_pos c3]
            exact ((hQ.fil _).fil _).app ⟨Or.inr (Or.inl rfl), ⟨b, hb, rfl⟩, Or.inr ⟨r, hr, rfl⟩⟩
          · rw [if_neg c3]
            exact (hQ.fil _).app ⟨Or.inr (Or.inr rfl), ⟨b, hb, rfl⟩, Or.inr ⟨r, hr, rfl⟩⟩
      by_cases c4 : A r 9 = 1
      · rw [if_pos c4]; exact main r hr
      · rw [if_neg c4]; exact main j hj
theorem op_create {z : Sc} (hI : SIall c z rs) (hn : 20000 < n) (a b d : Int32) : OP Sh B c z rs buf (fun M => fX6_create n Sh M B a b d) (fun N => fX7_create n Sh N (B + 833) a b d) [("java/lang/IndexOutOfBoundsException", 1), ("java/lang/IllegalArgumentException", 2), ("java/lang/IllegalStateException", 3)] := by
  obtain ⟨A, K, W, Q, sp, fo, rd, la⟩ := z
  have hS : SI c A K W Q fo rd la := hI.1
  have hW := hS.1
  by_cases ca : isN A a
  · obtain ⟨p, hp, rfl⟩ := id ca
    have hlen := kids_len hW hp
    by_cases cb : upto ((K p).length + 1) b
    · obtain ⟨pos, hpos, rfl⟩ := id cb
      have c1X : ∀ {ρ : Type} {X Y : ρ}, (if nI pos < 0 then X else Y) = Y := fun {ρ X Y} => if_neg (nI_pos (by omega))
      have c2X : ∀ {ρ : Type} {X Y : ρ}, (if nI pos ≤ nI (K p).length then X else Y) = X := fun {ρ X Y} => if_pos ((nI_leI (by omega) (by omega)).mpr (by omega))
      by_cases cd : upto 11 d
      · obtain ⟨r, hr, rfl⟩ := id cd
        have c3X : ∀ {ρ : Type} {X Y : ρ}, (if nI r < 0 then X else Y) = Y := fun {ρ X Y} => if_neg (nI_pos (by omega))
        have c4X : ∀ {ρ : Type} {X Y : ρ}, (if nI r ≤ 10 then X else Y) = X := fun {ρ X Y} => if_pos ((nI_leI (b := 10) (by omega) (by decide)).mpr (by omega))
        by_cases cf : ∀ i, i < 24 → live A i
        · refine ⟨3, 0, (A, K, W, Q, sp, fo, rd, la), rs, buf, fun M hM => ?_, fun N hN => ?_, hI.up⟩
          · dsimp only
            unfold fX6_create
            rw [x_reqA hM, cif_pos ca, xb1, c1X, tF_of hM.1.2.1.1, gF_of hM.2.1.1.1 hM.2.1.1.2.1, chk_pos hM.ct.1.1, bind_of (c_kidCount hM.ct hp.1), c2X, c3X, c4X, tF_of hM.1.2.1.1, gF_of hM.2.1.1.1 hM.2.1.1.2.1, chk_pos hM.ct.1.1]
            obtain ⟨x, ex, hx⟩ := c_lowestFree (n := n) hM.ct (by omega)
            rcases hx with ⟨j, h1, h2, h3, h4⟩ | ⟨h1, h2⟩
            · exact absurd (cf j h1) h3
            · rw [bind_of ex, if_pos h1]
              exact out_err (by decide) (fun _ => rfl) ⟨hM, Ag.rf⟩
          · dsimp only
            unfold fX7_create fX7_create_54
            obtain ⟨j, h1, h2, h3, h4⟩ := m_freeNode (n := n) hN.1 hN.mp (by omega)
            have ej : j = 24 := Classical.byContradiction fun y => h4 (by omega) (cf j (by omega))
            subst ej
            rw [bind_of (m_isNode hN.1 hN.mp _), i0 ca, bind_of (m_childMany hN.1 hN.mp hW (by omega) hp), bind_of (m_upto (by omega) _), i0 cb, show fX7_in n Sh N (nI r) 0 10 = some (bI (upto 11 (nI r))) from m_upto (k := 10) (by decide) _, bindS, i0 cd, bind_of h2, if_pos (show nI 24 = 24 from rfl), pI_of hN.1.1, tI_of, uI_same, if_neg (by decide)]
            exact m_err (by decide) hN
        · obtain ⟨j, hj, hf, hbef⟩ := min_free cf
          have hjp : p ≠ j := fun y => hf (by rw [← y]; exact hp)
          have hrn : nI r ≠ -1 := nI_ne_neg (by omega)
          have hjk : j ∉ K p := fun y => hf (hW.2.2.1 p hp j y).1
          have hlt := kids_lt hW hp hj hjk
          have hlb : ∀ i, live A i → live (bgA A j (nI r)) i := fun i hi => by
            have : i ≠ j := fun y => hf (by rw [← y]; exact hi)
            exact ⟨hi.1, by rw [bgA_i this]; exact hi.2⟩
          have hljj : live (bgA A j (nI r)) j := ⟨hj, by rw [bgA_s]; exact hrn⟩
          refine ⟨0, nI j, (sA (bgA A j (nI r)) j 1 (nI p), sK (sK K j []) p (ins (sK K j [] p) pos j), bgW W j, Q, sp, fo, rd, la), kpR rs (A, K, W, Q, sp, fo, rd, la), buf, fun M hM => ?_, fun N hN => ?_, ?_⟩
          · obtain ⟨x, ex, hx⟩ := c_lowestFree (n := n) hM.ct (by omega)
            have exj : x = nI j := by
              rcases hx with ⟨j', h1, h2, h3, h4⟩ | ⟨h1, h2⟩
              · have : j' = j := by
                  rcases Nat.lt_trichotomy j' j with y | y | y
                  · exact absurd (hbef j' y) h3
                  · exact y
                  · exact absurd (h4 j y) hf
                rw [h2, this]
              · exact absurd (h2 j hj) hf
            obtain ⟨M1, e1, k1, f1⟩ := x_keep (n := n) hM (by omega)
            obtain ⟨M2, e2, t2, f2⟩ := c_begin (n := n) k1.ct (by omega) hj (nI r)
            obtain ⟨k2, g2⟩ := x_tree k1 f2 t2
            obtain ⟨M3, e3, t3, f3⟩ := c_attach (n := n) k2.ct (by omega) (pos := pos) hljj (hlb p hp) (by rw [sK_i hjp]; omega) (by rw [sK_i hjp]; exact hlt)
            obtain ⟨k3, g3⟩ := x_tree k2 f3 t3
            refine Or.inr ⟨M3, ?_, rfl, k3, (f1.tr g2).tr g3⟩
            dsimp only
            unfold fX6_create
            rw [x_reqA hM, cif_pos ca, xb1, c1X, tF_of hM.1.2.1.1, gF_of hM.2.1.1.1 hM.2.1.1.2.1, chk_pos hM.ct.1.1, bind_of (c_kidCount hM.ct hp.1), c2X, c3X, c4X, tF_of hM.1.2.1.1, gF_of hM.2.1.1.1 hM.2.1.1.2.1, chk_pos hM.ct.1.1, bind_of ex, exj, if_neg (nI_ne_neg (by omega)), bind_of e1, tF_of k1.1.2.1.1, gF_of k1.2.1.1.1 k1.2.1.1.2.1, chk_pos k1.ct.1.1, bind_of e2, tF_of k2.1.2.1.1, gF_of k2.2.1.1.1 k2.2.1.1.2.1, chk_pos k2.ct.1.1, bind_of e3]
          · have h5 := hN.c5 0
            obtain ⟨N1, e1, k1, f1, c1⟩ := m_keep (n := n) h5 hI.wl hI.wls hn
            obtain ⟨j', h1, h2, h3, h4⟩ := m_freeNode (n := n) hN.1 hN.mp (by omega)
            have ej : j' = j := by
              rcases Nat.lt_trichotomy j' j with y | y | y
              · exact absurd (hbef j' y) (h4 (by omega))
              · exact y
              · exact absurd (h3 j y) hf
            subst ej
            obtain ⟨j2, g1, g2, g3, g4⟩ := m_freeNode (n := n) k1.1 k1.mp (by omega)
            have ej2 : j2 = j' := by
              rcases Nat.lt_trichotomy j2 j' with y | y | y
              · exact absurd (hbef j2 y) (g4 (by omega))
              · exact y
              · exact absurd (g3 j' y) hf
            subst ej2
            obtain ⟨N2, e2, r2, p2⟩ := m_create79 (n := n) k1.1 k1.mp hW hS.2.1 (by omega) (r := nI r) (pos := pos) hj hf hp hrn (by omega)
            obtain ⟨k2, f2, c2⟩ := m_tree k1 p2 r2
            refine ⟨_, N2, ?_, by rw [c2, c1]; exact uI_same, fun _ => rfl, k2, ((FM.u (by omega)).tr f1).tr f2⟩
            dsimp only
            unfold fX7_create fX7_create_54
            rw [bind_of (m_isNode hN.1 hN.mp _), i0 ca, bind_of (m_childMany hN.1 hN.mp hW (by omega) hp), bind_of (m_upto (by omega) _), i0 cb, show fX7_in n Sh N (nI r) 0 10 = some (bI (upto 11 (nI r))) from m_upto (k := 10) (by decide) _, bindS, i0 cd, bind_of h2, if_neg (show ¬ nI j2 = 24 from fun y => by have := nI_inj (b := 24) (by omega) (by decide) y; omega), pI_of hN.1.1, tI_of, uI_same, if_pos rfl, bind_of e1, bind_of g2, e2]
          · exact ⟨(SI.create hS hj hf hp hrn).up, hI.keep⟩
      · refine ⟨2, 0, (A, K, W, Q, sp, fo, rd, la), rs, buf, fun M hM => ?_, fun N hN => ?_, hI.up⟩
        · dsimp only
          unfold fX6_create fX6_create_44
          rw [x_reqA hM, cif_pos ca, xb1, c1X, tF_of hM.1.2.1.1, gF_of hM.2.1.1.1 hM.2.1.1.2.1, chk_pos hM.ct.1.1, bind_of (c_kidCount hM.ct hp.1), c2X]
          by_cases d0 : d < 0
          · rw [if_pos d0]
            exact out_err (by decide) (fun _ => rfl) ⟨hM, Ag.rf⟩
          · obtain ⟨q, hq, rfl⟩ := nI_of d0
            rw [if_neg d0, if_neg (show ¬ nI q ≤ 10 from fun y => cd ⟨q, by have := (nI_leI (b := 10) hq (by decide)).mp y; omega, rfl⟩)]
            exact out_err (by decide) (fun _ => rfl) ⟨hM, Ag.rf⟩
        · dsimp only
          unfold fX7_create fX7_create_54
          rw [bind_of (m_isNode hN.1 hN.mp _), i0 ca, bind_of (m_childMany hN.1 hN.mp hW (by omega) hp), bind_of (m_upto (by omega) _), i0 cb, show fX7_in n Sh N d 0 10 = some (bI (upto 11 d)) from m_upto (k := 10) (by decide) _, bindS, i0n cd, pI_of hN.1.1, tI_of, uI_same, if_neg (by decide)]
          exact m_err (by decide) hN
    · refine ⟨1, 0, (A, K, W, Q, sp, fo, rd, la), rs, buf, fun M hM => ?_, fun N hN => ?_, hI.up⟩
      · dsimp only
        unfold fX6_create fX6_create_24
        rw [x_reqA hM, cif_pos ca, xb1]
        by_cases b0 : b < 0
        · rw [if_pos b0]
          exact out_err (by decide) (fun _ => rfl) ⟨hM, Ag.rf⟩
        · obtain ⟨q, hq, rfl⟩ := nI_of b0
          rw [if_neg b0, tF_of hM.1.2.1.1, gF_of hM.2.1.1.1 hM.2.1.1.2.1, chk_pos hM.ct.1.1, bind_of (c_kidCount hM.ct hp.1), if_neg (fun y => cb ⟨q, by have := (nI_leI hq (by omega)).mp y; omega, rfl⟩)]
          exact out_err (by decide) (fun _ => rfl) ⟨hM, Ag.rf⟩
      · dsimp only
        unfold fX7_create fX7_create_22 fX7_create_54
        rw [bind_of (m_isNode hN.1 hN.mp _), i0 ca, bind_of (m_childMany hN.1 hN.mp hW (by omega) hp), bind_of (m_upto (by omega) _), i0n cb, pI_of hN.1.1, tI_of, uI_same, if_neg (by decide)]
        exact m_err (by decide) hN
  · refine ⟨1, 0, (A, K, W, Q, sp, fo, rd, la), rs, buf, fun M hM => ?_, fun N hN => ?_, hI.up⟩
    · dsimp only
      unfold fX6_create
      rw [x_reqA hM, cif_neg ca, xb0]
      exact out_err (by decide) (fun _ => rfl) ⟨hM, Ag.rf⟩
    · dsimp only
      unfold fX7_create fX7_create_22 fX7_create_54
      rw [bind_of (m_isNode hN.1 hN.mp _), i0n ca, pI_of hN.1.1, tI_of, uI_same, if_neg (by decide)]
      exact m_err (by decide) hN
theorem op_remove {z : Sc} (hI : SIall c z rs) (hn : 20000 < n) (a : Int32) : OP Sh B c z rs buf (fun M => fX6_remove n Sh M B a) (fun N => fX7_remove n Sh N (B + 833) a) [("java/lang/IndexOutOfBoundsException", 1), ("java/lang/IllegalStateException", 2)] := by
  obtain ⟨A, K, W, Q, sp, fo, rd, la⟩ := z
  have hS : SI c A K W Q fo rd la := hI.1
  have hW := hS.1
  by_cases ca : isN A a
  · obtain ⟨j, hj, rfl⟩ := id ca
    by_cases c0 : j = 0
    · subst c0
      refine ⟨2, 0, (A, K, W, Q, sp, fo, rd, la), rs, buf, fun M hM => ?_, fun N hN => ?_, hI.up⟩
      · dsimp only
        unfold fX6_remove
        rw [x_reqA hM, cif_pos ca, xb1, if_pos (show nI 0 = 0 from rfl)]
        exact out_err (by decide) (fun _ => rfl) ⟨hM, Ag.rf⟩
      · dsimp only
        unfold fX7_remove fX7_remove_22
        rw [bind_of (m_isNode hN.1 hN.mp _), i0 ca, if_pos (show nI 0 = 0 from rfl), pI_of hN.1.1, tI_of, uI_same, if_neg (by decide)]
        exact m_err (by decide) hN
    · have n0 : ¬ nI j = 0 := fun y => c0 (nI_inj (b := 0) hj.lt (by decide) y)
      obtain ⟨p, hp, e, hk⟩ := hW.2.1 j hj c0
      obtain ⟨gt, gp⟩ := gn_top hW hj hp e
      refine ⟨0, nI (cnt (gnP A j) 24), (remA A (gnP A j), remK K (gnP A j) p j, remW W (gnP A j), qFil (fun x => inM (gnP A j) x.2.1 ∨ inM (gnP A j) x.2.2.1) Q, sp, fgV (gnP A j) fo, fgV (gnP A j) rd, la), kpR rs (A, K, W, Q, sp, fo, rd, la), buf, fun M hM => ?_, fun N hN => ?_, ?_⟩
      · obtain ⟨M1, e1, k1, f1⟩ := x_keep (n := n) hM (by omega)
        have k1s : CS Sh M1 (B + 1) A K W Q sp fo rd la := k1.2.1
        have em : fX4_maskFrom n Sh M1 (B + 1 + 1) (nI j) = some (mk (gnP A j)) := c_maskFrom k1.ct hW (by omega) hj.1
        obtain ⟨M2, e2, r2, f2⟩ := c_forget (n := n) k1s (by omega) hj.1 gt e hp gp hk (hW.2.2.2.1 p hp) (fun x hx => (hW.2.2.1 p hp x hx).1.1) (fun i hi g hij => gn_up hW g hij)
        have r2' : CSc Sh M2 (B + 1) (remA A (gnP A j), remK K (gnP A j) p j, remW W (gnP A j), qFil (fun x => inM (gnP A j) x.2.1 ∨ inM (gnP A j) x.2.2.1) Q, sp, fgV (gnP A j) fo, fgV (gnP A j) rd, la) := r2
        obtain ⟨k2, g2⟩ := x_sc k1 f2 r2'
        refine Or.inr ⟨M2, ?_, rfl, k2, f1.tr g2⟩
        dsimp only
        unfold fX6_remove
        rw [x_reqA hM, cif_pos ca, xb1, if_neg n0, bind_of e1, tF_of k1.1.2.1.1, gF_of k1.2.1.1.1 k1.2.1.1.2.1, chk_pos k1.ct.1.1, bind_of em, tF_of k1.1.2.1.1, chk_pos k1.2.1.1.1, bind_of e2, bind_of (bits_mk _)]
      · have h5 := hN.c5 0
        obtain ⟨N1, e1, k1, f1, c1⟩ := m_keep (n := n) h5 hI.wl hI.wls hn
        have k1s : MS (N1.1 (B + 833 + 1)) A K W Q sp fo rd la := k1.2.1
        obtain ⟨N2, e2, r2, c2⟩ := m_remove42 (n := n) k1.1 k1s hW hS.2.1 hS.2.2.2.1 hS.2.2.2.2.1 hS.2.2.2.2.2.1 hn hj c0 hp e
        have r2' : MSc (N2.1 (B + 833 + 1)) (remA A (gnP A j), remK K (gnP A j) p j, remW W (gnP A j), qFil (fun x => inM (gnP A j) x.2.1 ∨ inM (gnP A j) x.2.2.1) Q, sp, fgV (gnP A j) fo, fgV (gnP A j) rd, la) := r2
        refine ⟨_, N2, ?_, by rw [c2.2.2 5 (by decide) (by decide), c1]; exact uI_same, fun _ => rfl, k1.now c2 r2', ((FM.u (by omega)).tr f1).tr c2.fm⟩
        dsimp only
        unfold fX7_remove fX7_remove_22
        rw [bind_of (m_isNode hN.1 hN.mp _), i0 ca, if_neg n0, pI_of hN.1.1, tI_of, uI_same, if_pos rfl, bind_of e1, e2]
      · exact ⟨(SI.remove hS hj c0 hp e).up, hI.keep⟩
  · refine ⟨1, 0, (A, K, W, Q, sp, fo, rd, la), rs, buf, fun M hM => ?_, fun N hN => ?_, hI.up⟩
    · dsimp only
      unfold fX6_remove
      rw [x_reqA hM, cif_neg ca, xb0]
      exact out_err (by decide) (fun _ => rfl) ⟨hM, Ag.rf⟩
    · dsimp only
      unfold fX7_remove fX7_remove_22
      rw [bind_of (m_isNode hN.1 hN.mp _), i0n ca, pI_of hN.1.1, tI_of, uI_same, if_neg (by decide)]
      exact m_err (by decide) hN
end OPS2
