/-! ===== LEVEL 2: masks ===== -/
noncomputable def cN (P : Prop) : Nat := cif P 1 0
theorem cN_pos {P : Prop} (h : P) : cN P = 1 := cif_pos h
theorem cN_neg {P : Prop} (h : ¬ P) : cN P = 0 := cif_neg h
theorem cN_le (P : Prop) : cN P ≤ 1 := by
  by_cases h : P
  · rw [cN_pos h]; exact Nat.le_refl _
  · rw [cN_neg h]; exact Nat.zero_le _
noncomputable def mkN (P : Nat → Prop) : Nat → Nat
  | 0 => 0
  | N + 1 => 2 ^ N * cN (P N) + mkN P N
noncomputable def mk (P : Nat → Prop) : Int32 := nI (mkN P 24)
noncomputable def cnt (P : Nat → Prop) : Nat → Nat
  | 0 => 0
  | N + 1 => cnt P N + cN (P N)
theorem mkN_lt (P : Nat → Prop) : ∀ N, mkN P N < 2 ^ N := by
  intro N
  induction N with
  | zero => exact Nat.one_pos
  | succ N ih =>
    have h := cN_le (P N)
    have : 2 ^ N * cN (P N) ≤ 2 ^ N * 1 := Nat.mul_le_mul_left _ h
    show 2 ^ N * cN (P N) + mkN P N < 2 ^ (N + 1)
    rw [Nat.pow_succ]
    omega
theorem mkN_bit (P : Nat → Prop) : ∀ N j, (mkN P N).testBit j = cB (j < N ∧ P j) := by
  intro N
  induction N with
  | zero =>
    intro j
    rw [cB_neg (fun z => absurd z.1 (Nat.not_lt_zero j))]
    exact Nat.zero_testBit j
  | succ N ih =>
    intro j
    show (2 ^ N * cN (P N) + mkN P N).testBit j = _
    rw [Nat.testBit_two_pow_mul_add _ (mkN_lt P N)]
    by_cases hj : j < N
    · rw [if_pos hj, ih j]
      by_cases hp : P j
      · rw [cB_pos ⟨hj, hp⟩, cB_pos ⟨by omega, hp⟩]
      · rw [cB_neg (fun z => hp z.2), cB_neg (fun z => hp z.2)]
    · rw [if_neg hj]
      by_cases he : j = N
      · subst he
        rw [Nat.sub_self]
        by_cases hp : P j
        · rw [cN_pos hp, cB_pos ⟨by omega, hp⟩]; decide
        · rw [cN_neg hp, cB_neg (fun z => hp z.2)]; decide
      · have h2 : 1 ≤ j - N := by omega
        rw [cB_neg (fun z => by omega)]
        by_cases hp : P N
        · rw [cN_pos hp]
          exact Nat.testBit_lt_two_pow (Nat.lt_of_lt_of_le (show 1 < 2 ^ 1 by decide) (Nat.pow_le_pow_right (by decide) h2))
        · rw [cN_neg hp]; exact Nat.zero_testBit _
theorem nI_bv (a : Nat) : (nI a).toBitVec = BitVec.ofNat 32 a := rfl
theorem nI_or (a b : Nat) : nI a ||| nI b = nI (a ||| b) := by
  apply Int32.toBitVec_inj.mp
  rw [Int32.toBitVec_or, nI_bv, nI_bv, nI_bv, BitVec.ofNat_or]
theorem nI_and (a b : Nat) : nI a &&& nI b = nI (a &&& b) := by
  apply Int32.toBitVec_inj.mp
  rw [Int32.toBitVec_and, nI_bv, nI_bv, nI_bv, BitVec.ofNat_and]
theorem nI_pow {j : Nat} (h : j < 24) : (1 : Int32) <<< (nI j &&& 31) = nI (2 ^ j) := by
  have : ∀ j ∈ List.range 24, (1 : Int32) <<< (nI j &&& 31) = nI (2 ^ j) := by decide +kernel
  exact this j (List.mem_range.mpr h)
theorem nI_zpow {j : Nat} (h : j < 24) : (0 : Int32) <<< (nI j &&& 31) = 0 := by
  have : ∀ j ∈ List.range 24, (0 : Int32) <<< (nI j &&& 31) = 0 := by decide +kernel
  exact this j (List.mem_range.mpr h)
/-- a bit is set -/
theorem mk_step (P : Nat → Prop) {N : Nat} (h : N < 24) : nI (mkN P N) ||| ((1 : Int32) <<< (nI N &&& 31)) = nI (2 ^ N * 1 + mkN P N) := by
  rw [nI_pow h, nI_or, Nat.or_comm, Nat.two_pow_add_eq_or_of_lt (mkN_lt P N), Nat.mul_one]
theorem sm_j {j : Nat} (h : j < 24) : ((nI j &&& 31).toBitVec.smod 32).toNat = j := by
  have : ∀ j ∈ List.range 24, ((nI j &&& 31).toBitVec.smod 32).toNat = j := by decide +kernel
  exact this j (List.mem_range.mpr h)
theorem nI_shr {a j : Nat} (ha : a < 2 ^ 31) (h : j < 24) : nI a >>> (nI j &&& 31) = nI (a >>> j) := by
  apply Int32.toBitVec_inj.mp
  rw [Int32.toBitVec_shiftRight, nI_bv, nI_bv]
  show (BitVec.ofNat 32 a).sshiftRight (((nI j &&& 31).toBitVec.smod 32).toNat) = _
  rw [sm_j h]
  have hm : (BitVec.ofNat 32 a).msb = false := by
    rw [BitVec.msb_eq_decide]
    simp only [BitVec.toNat_ofNat]
    apply decide_eq_false
    rw [Nat.mod_eq_of_lt (by omega)]
    omega
  rw [BitVec.sshiftRight_eq_of_msb_false hm]
  apply BitVec.eq_of_toNat_eq
  rw [BitVec.toNat_ushiftRight, BitVec.toNat_ofNat, BitVec.toNat_ofNat, Nat.mod_eq_of_lt (show a < 2 ^ 32 by omega), Nat.mod_eq_of_lt]
  exact Nat.lt_of_le_of_lt (Nat.shiftRight_le a j) (by omega)
theorem mk_bit (P : Nat → Prop) {j : Nat} (h : j < 24) : ((mk P >>> (nI j &&& 31)) &&& 1 = 1) ↔ P j := by
  have hl := mkN_lt P 24
  unfold mk
  rw [nI_shr (by omega) h, show (1 : Int32) = nI 1 from rfl, nI_and, eq_nI (Nat.lt_of_le_of_lt Nat.and_le_right (by decide)) (by decide), Nat.and_one_is_mod]
  have hb := mkN_bit P 24 j
  rw [Nat.testBit_eq_decide_div_mod_eq] at hb
  rw [Nat.shiftRight_eq_div_pow]
  by_cases hp : P j
  · rw [cB_pos ⟨h, hp⟩] at hb
    exact ⟨fun _ => hp, fun _ => of_decide_eq_true hb⟩
  · rw [cB_neg (fun z => hp z.2)] at hb
    exact ⟨fun z => absurd z (of_decide_eq_false hb), fun z => absurd z hp⟩
/-- a node of a mask -/
def inM (P : Nat → Prop) (v : Int32) : Prop := ∃ j, j < 24 ∧ v = nI j ∧ P j
theorem c_isIn {n : Nat} {Sh : Sp} {M : Mm} (P : Nat → Prop) (v : Int32) : fX6_isIn n Sh M (mk P) v = some (bI (inM P v)) := by
  unfold fX6_isIn
  by_cases h0 : v < 0
  · rw [if_pos h0, bI_neg]
    rintro ⟨j, hj, e, -⟩
    subst e
    exact nI_pos (by omega) h0
  · rw [if_neg h0]
    by_cases h1 : v < 24
    · obtain ⟨j, hj, rfl⟩ := live_nI h0 h1
      rw [if_pos h1]
      by_cases hp : P j
      · rw [if_pos ((mk_bit P hj).mpr hp), bI_pos ⟨j, hj, rfl, hp⟩]
      · rw [if_neg (fun z => hp ((mk_bit P hj).mp z)), bI_neg]
        rintro ⟨k, hk, e, z⟩
        have := nI_inj (by omega) (by omega) e
        subst this
        exact hp z
    · rw [if_neg h1, bI_neg]
      rintro ⟨j, hj, e, -⟩
      subst e
      exact h1 (lt24 hj)
section MASK
variable {Sh : Sp} {M : Mm} {t μ n : Nat} {A : At} {K : Kt} {W : Wt}
theorem c_maskFrom (h : CT Sh M t A K W) (hW : WF A K) (hn : 24 < n) {top : Nat} (ht : top < 24) : fX4_maskFrom n Sh M t (nI top) = some (mk (fun j => live A j ∧ (j = top ∨ top ∈ chain A (A j 1)))) := by
  unfold fX4_maskFrom fX4_maskFrom_4 mk
  generalize hP : (fun j => live A j ∧ (j = top ∨ top ∈ chain A (A j 1))) = P
  refine iter_seq (N := 24) (fun j => (nI (mkN P j), nI j)) (fun j hj => ?_) ?_ hn rfl
  · unfold fX4_maskFrom_4b fX4_maskFrom_32 fX4_maskFrom_38
    dsimp only
    rw [if_pos (lt24 hj), bind_of (c_has h _), bI_congr (isN_nI (A := A) (show j < 2 ^ 31 by omega)), mk_step P hj, nI_add1]
    have e1 : P j → mkN P (j + 1) = 2 ^ j * 1 + mkN P j := fun hp => by
      show 2 ^ j * cN (P j) + mkN P j = _
      rw [cN_pos hp]
    have e0 : ¬ P j → mkN P (j + 1) = mkN P j := fun hp => by
      show 2 ^ j * cN (P j) + mkN P j = _
      rw [cN_neg hp, Nat.mul_zero, Nat.zero_add]
    have hPj : P j ↔ live A j ∧ (j = top ∨ top ∈ chain A (A j 1)) := by rw [← hP]
    by_cases hl : live A j
    · rw [i0 hl]
      by_cases hjt : j = top
      · rw [if_pos (by rw [hjt]), e1 (hPj.mpr ⟨hl, Or.inl hjt⟩)]
      · rw [if_neg (fun z => hjt (nI_inj (by omega) (by omega) z)), bind_of (c_liesBelow h hW hn (Or.inr ⟨j, hl, rfl⟩) (show top < 2 ^ 31 by omega)), rd_nI hj]
        by_cases hb : top ∈ chain A (A j 1)
        · rw [i0 hb, e1 (hPj.mpr ⟨hl, Or.inr hb⟩)]
        · rw [i0n hb, e0 (fun z => ((hPj.mp z).2).elim hjt hb)]
    · rw [i0n hl, e0 (fun z => hl (hPj.mp z).1)]
  · unfold fX4_maskFrom_4b
    dsimp only
    rw [if_neg (show ¬ nI 24 < 24 by decide)]
theorem m_nodes9 (hL : ML Sh M.2.1 μ) (hP : MP (M.1 (μ + 1)) A K W) (hn : 24 < n) : fX7_nodes_9 n Sh μ M 0 0 = some (mk (live A), M) := by
  unfold fX7_nodes_9 mk
  refine iter_seq (N := 24) (fun j => (nI (mkN (live A) j), nI j)) (fun j hj => ?_) ?_ hn rfl
  · unfold fX7_nodes_9b
    dsimp only
    rw [if_pos (lt24 hj), bind_of (mo0 hL hP hj), nI_add1]
    have e : mkN (live A) (j + 1) = 2 ^ j * cN (live A j) + mkN (live A) j := rfl
    rw [e]
    by_cases hl : live A j
    · rw [bI_pos hl, mk_step _ hj, cN_pos hl]
    · rw [bI_neg hl, nI_zpow hj, cN_neg hl, Nat.mul_zero, Nat.zero_add, Int32.or_zero]
  · unfold fX7_nodes_9b
    dsimp only
    rw [if_neg (show ¬ nI 24 < 24 by decide)]
/-- all nodes hang below the root -/
theorem below_root (hW : WF A K) : (fun j => live A j ∧ (j = 0 ∨ 0 ∈ chain A (A j 1))) = live A := by
  funext j
  refine propext ⟨fun z => z.1, fun hl => ⟨hl, ?_⟩⟩
  have := chain_root hW hl
  rw [chain_cons hW hl] at this
  rcases List.mem_cons.mp this with e | e
  · exact Or.inl e.symm
  · exact Or.inr e
end MASK
