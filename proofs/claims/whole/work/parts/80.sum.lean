/-! ===== LEVEL 2: the checksum ===== -/
def hx (h : Int64) (l : List Int32) : Int64 := l.foldl (fun h v => (31 : Int64) * h + Int32.toInt64 v) h
theorem hx_app (h : Int64) (l l' : List Int32) : hx h (l ++ l') = hx (hx h l) l' := List.foldl_append
theorem hx_s {h : Int64} {l : List Int32} {k : Nat} (hk : k < l.length) : hx h (l.take (k + 1)) = (31 : Int64) * hx h (l.take k) + Int32.toInt64 l[k] := by
  rw [List.take_succ_eq_append_getElem hk, hx_app]
  rfl
theorem uL_same {M : Mm} {a k : Nat} {v : Int64} : (uL M a k v).2.2 a k = v := by simp [uL, vp_updL]
theorem uL_uL {M : Mm} {a k : Nat} {v w : Int64} : uL (uL M a k v) a k w = uL M a k w := by
  unfold uL
  congr 2
  funext b
  by_cases e : b = a
  · rw [if_pos e, if_pos e]
    funext i
    unfold vp_updL
    by_cases e2 : i = k
    · rw [if_pos e2, if_pos e2]
    · rw [if_neg e2, if_neg e2]
      simp [e2]
  · rw [if_neg e, if_neg e]
    exact if_neg e
theorem uL_self {M : Mm} {a k : Nat} : uL M a k (M.2.2 a k) = M := by
  unfold uL
  have : (fun b => if b = a then vp_updL (M.2.2 a) k (M.2.2 a k) else M.2.2 b) = M.2.2 := by
    funext b
    by_cases e : b = a
    · rw [if_pos e, e]
      funext i
      unfold vp_updL
      by_cases e2 : i = k
      · rw [if_pos e2, e2]
      · rw [if_neg e2]
    · rw [if_neg e]
  rw [this]
theorem uL_off {M : Mm} {a b k : Nat} {v : Int64} (h : b ≠ a) : (uL M a k v).2.2 b = M.2.2 b := if_neg h
theorem FM.l {μ : Nat} {M : Mm} {v : Int64} : FM μ M (uL M μ 11 v) := ⟨rfl, fun _ _ => rfl, fun _ h => uL_off h⟩
theorem m_mix {n : Nat} {Sh : Sp} {M : Mm} {μ : Nat} {v : Int64} : fX7_mix n Sh M μ v = some (uL M μ 11 ((31 : Int64) * M.2.2 μ 11 + v)) := rfl
theorem m_loop {ρ : Type} {n μ : Nat} {N : Mm} {l : List Int32} {f : Int32 × Mm → Option ((Int32 × Mm) ⊕ ρ)} {r : ρ} (hs : ∀ k (hk : k < l.length) h, f (nI k, uL N μ 11 h) = some (.inl (nI (k + 1), uL N μ 11 ((31 : Int64) * h + Int32.toInt64 l[k])))) (he : f (nI l.length, uL N μ 11 (hx (N.2.2 μ 11) l)) = some (.inr r)) (hn : l.length < n) : iter n f (0, N) = some r := by
  refine iter_seq (N := l.length) (fun k => (nI k, uL N μ 11 (hx (N.2.2 μ 11) (l.take k)))) (fun k hk => ?_) ?_ hn (by show (nI 0, N) = (nI 0, uL N μ 11 (N.2.2 μ 11)); rw [uL_self])
  · rw [hs k hk, hx_s hk]
  · rw [List.take_length]; exact he
/-- a call that tells a long -/
def OPL (Sh : Sp) (B c : Nat) (z : Sc) (rs : List Sc) (buf : List Int32) (fX : Mm → Option (Int64 × Mm)) (fM : Mm → Option (Int64 × Mm)) : Prop := ∃ v z' rs' buf', (∀ M, CX Sh M B z rs buf → ∃ M', fX M = some (v, M') ∧ CX Sh M' B z' rs' buf' ∧ Ag (CR B) M M') ∧ (∀ N, MX Sh N (B + 833) z rs buf → ∃ N', fM N = some (v, N') ∧ MX Sh N' (B + 833) z' rs' buf' ∧ FM (B + 833) N N') ∧ SIall (c + 1) z' rs'
def qiL (x : QI) : List Int32 := [x.1, x.2.1, x.2.2.1, nI x.2.2.2.length] ++ x.2.2.2
theorem flat_s {α : Type} {g : α → List Int32} {L : List α} {k : Nat} (hk : k < L.length) : (L.take (k + 1)).flatMap g = (L.take k).flatMap g ++ g L[k] := by
  rw [List.take_succ_eq_append_getElem hk, List.flatMap_append, List.flatMap_cons, List.flatMap_nil, List.append_nil]
section SUM
variable {Sh : Sp} {M M' N N' : Mm} {B μ c n : Nat} {z : Sc} {rs : List Sc} {buf : List Int32} {A : At} {K : Kt} {W : Wt} {Q : List QI} {sp : List Int32} {fo rd la : Int32}
theorem MX.l (h : MX Sh N μ z rs buf) (v : Int64) : MX Sh (uL N μ 11 v) μ z rs buf := h
theorem inf_fn (Sh : Sp) (hW : WF A K) (hN : WN A) (hn : 24 < n) : ∃ f : Nat → Nat → Int32, ∀ j q, live A j → q < 15 → (∀ M t, CT Sh M t A K W → fX4_about n Sh M t (nI j) (nI q) = some (f j q)) ∧ ∀ M μ, ML Sh M.2.1 μ → MP (M.1 (μ + 1)) A K W → fX7_infoOf n Sh M μ (nI j) (nI q) = some (f j q) := by
  have h : ∀ x : Nat × Nat, ∃ v : Int32, live A x.1 → x.2 < 15 → (∀ M t, CT Sh M t A K W → fX4_about n Sh M t (nI x.1) (nI x.2) = some v) ∧ ∀ M μ, ML Sh M.2.1 μ → MP (M.1 (μ + 1)) A K W → fX7_infoOf n Sh M μ (nI x.1) (nI x.2) = some v := fun x => by
    by_cases c : live A x.1 ∧ x.2 < 15
    · obtain ⟨v, h1, h2⟩ := info_both (n := n) (Sh := Sh) (W := W) hW hN hn c.1 c.2
      exact ⟨v, fun _ _ => ⟨h1, h2⟩⟩
    · exact ⟨0, fun a b => absurd ⟨a, b⟩ c⟩
  obtain ⟨f, hf⟩ := Classical.axiomOfChoice h
  exact ⟨fun j q => f (j, q), fun j q hj hq => hf (j, q) hj hq⟩
theorem c_mixWords {w cap : Nat} {l : List Int32} (hw : WR Sh M w cap l) (hcap : cap < 2 ^ 31) (hn : l.length < n) (h : Int64) : fX6_mixWords n Sh M h w = some (hx h l) := by
  have hl := hw.2.2.2.2.1
  unfold fX6_mixWords fX6_mixWords_5
  refine iter_seq (N := l.length) (fun k => (hx h (l.take k), nI k)) (fun k hk => ?_) ?_ hn rfl
  · unfold fX6_mixWords_5b fX6_mix
    dsimp only
    rw [gI_of hw.1, hw.2.2.2.1, if_pos ((nI_ltI (by omega) (by omega)).mpr hk), chk_pos hw.1, bind_of (w_atI hw hcap _), lat_in hk (by omega), bindS, hx_s hk, nI_add1, List.getD_eq_getElem?_getD, List.getElem?_eq_getElem hk]
    rfl
  · unfold fX6_mixWords_5b fX6_mixWords_32
    dsimp only
    rw [gI_of hw.1, hw.2.2.2.1, if_neg (fun y => Nat.lt_irrefl _ ((nI_ltI (by omega) (by omega)).mp y)), List.take_length]
    rfl
theorem c_mixQueue (h : CX Sh M B (A, K, W, Q, sp, fo, rd, la) rs buf) (hn : 20000 < n) (h0 : Int64) : fX6_mixQueue n Sh M B h0 = some (hx (hx h0 [nI Q.length]) (Q.flatMap qiL)) := by
  have hq := h.cs.2.2.2.1
  have h10 := hq.2.2.1
  unfold fX6_mixQueue fX6_mixQueue_22
  rw [tF_of h.1.2.1.1, gF_of h.cs.1.1 h.cs.1.2.2.1, gI_of hq.1.1, hq.2.1]
  show iter n _ (hx h0 [nI Q.length], 0) = _
  generalize hx h0 [nI Q.length] = h1
  refine iter_seq (N := Q.length) (fun k => (hx h1 ((Q.take k).flatMap qiL), nI k)) (fun k hk => ?_) ?_ (by omega) rfl
  · unfold fX6_mixQueue_22b fX6_mixQueue_34
    dsimp only
    rw [gI_of hq.1.1, hq.2.1, if_pos ((nI_ltI (by omega) (by omega)).mpr hk), flat_s hk, hx_app]
    have hx' : Q[k]? = some Q[k] := List.getElem?_eq_getElem hk
    generalize Q[k] = x at *
    generalize hx h1 ((Q.take k).flatMap qiL) = h2
    have hab : ∀ w, fX1_about n Sh M (B + 1 + 110) (nI k) w = some (if w = 0 then x.1 else if w = 1 then x.2.1 else if w = 2 then x.2.2.1 else nI x.2.2.2.length) := fun w => by
      rw [q_about hq]
      unfold qAt
      rw [if_neg (nI_pos (by omega)), nI_clamp (by omega), hx']
    have hsg : ∀ i, i < x.2.2.2.length → fX1_signAt n Sh M (B + 1 + 110) (nI k) (nI i) = some (x.2.2.2.getD i 0) := fun i hi => by
      rw [q_signAt hq]
      unfold qSign
      have hl : x.2.2.2.length ≤ 256 := by
        obtain ⟨-, -, -, -, p, -, -, -, g⟩ := hq
        exact (g k x hx').2.2.2.2.2.2.2.1
      rw [if_neg (nI_pos (by omega)), nI_clamp (by omega), hx']
      show some (lat x.2.2.2 (nI i)) = _
      rw [lat_in hi (by omega)]
    have hl : x.2.2.2.length ≤ 256 := by
      obtain ⟨-, -, -, -, p, -, -, -, g⟩ := hq
      exact (g k x hx').2.2.2.2.2.2.2.1
    unfold qiL
    rw [hx_app]
    -- the four, then the signs
    refine iter_seq (N := 4) (fun q => (hx h2 (([x.1, x.2.1, x.2.2.1, nI x.2.2.2.length] : List Int32).take q), nI q)) (fun q hq4 => ?_) ?_ (by omega) rfl
    · unfold fX6_mixQueue_34b fX6_mix
      dsimp only
      rw [if_pos (show nI q < 4 from (nI_ltI (b := 4) (by omega) (by decide)).mpr hq4), chk_pos hq.1.1, bind_of (hab _), bindS, nI_add1]
      rcases (by omega : q = 0 ∨ q = 1 ∨ q = 2 ∨ q = 3) with e | e | e | e <;> subst e <;> rfl
    · unfold fX6_mixQueue_34b fX6_mixQueue_62 fX6_mixQueue_74
      dsimp only
      rw [if_neg (show ¬ nI 4 < 4 by decide), chk_pos hq.1.1, bind_of (hab _), if_neg (by decide), if_neg (by decide), if_neg (by decide)]
      show Option.map Sum.inr (iter n _ (hx h2 [x.1, x.2.1, x.2.2.1, nI x.2.2.2.length], 0)) = _
      generalize hx h2 [x.1, x.2.1, x.2.2.1, nI x.2.2.2.length] = h3
      have e74 : iter n (fun s : Int64 × Int32 => fX6_mixQueue_74b n Sh M B h0 (B + 1 + 110) (nI k) (nI x.2.2.2.length) s.1 s.2) (h3, 0) = some (Sum.inl (hx h3 x.2.2.2, nI (k + 1))) := by
        refine iter_seq (N := x.2.2.2.length) (fun q => (hx h3 (x.2.2.2.take q), nI q)) (fun q hq4 => ?_) ?_ (by omega) rfl
        · unfold fX6_mixQueue_74b fX6_mix
          dsimp only
          rw [if_pos ((nI_ltI (by omega) (by omega)).mpr hq4), chk_pos hq.1.1, bind_of (hsg q hq4), bindS, hx_s hq4, nI_add1, List.getD_eq_getElem?_getD, List.getElem?_eq_getElem hq4]
          rfl
        · unfold fX6_mixQueue_74b fX6_mixQueue_103
          dsimp only
          rw [if_neg (fun y => Nat.lt_irrefl _ ((nI_ltI (by omega) (by omega)).mp y)), List.take_length, nI_add1]
          rfl
      rw [e74]
      rfl
  · unfold fX6_mixQueue_22b fX6_mixQueue_109
    dsimp only
    rw [gI_of hq.1.1, hq.2.1, if_neg (fun y => Nat.lt_irrefl _ ((nI_ltI (by omega) (by omega)).mp y)), List.take_length]
    rfl
end SUM
