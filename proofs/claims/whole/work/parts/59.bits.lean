/-! ===== LEVEL 2: how many bits ===== -/
theorem land_dig {s a c : Nat} (ha : a < 2 ^ s) (hc : c < 2 ^ s) (b d : Nat) : (2 ^ s * b + a) &&& (2 ^ s * d + c) = 2 ^ s * (b &&& d) + (a &&& c) := by
  apply Nat.eq_of_testBit_eq
  intro i
  rw [Nat.testBit_and, Nat.testBit_two_pow_mul_add _ ha, Nat.testBit_two_pow_mul_add _ hc, Nat.testBit_two_pow_mul_add _ (Nat.lt_of_le_of_lt Nat.and_le_left ha)]
  by_cases h : i < s
  · rw [if_pos h, if_pos h, if_pos h, Nat.testBit_and]
  · rw [if_neg h, if_neg h, if_neg h, Nat.testBit_and]
theorem nI_ushr {a : Nat} (ha : a < 2 ^ 31) : ((nI a).toUInt32 >>> (Int32.toUInt32 1 &&& Int32.toUInt32 31)).toInt32 = nI (a >>> 1) ∧ ((nI a).toUInt32 >>> (Int32.toUInt32 2 &&& Int32.toUInt32 31)).toInt32 = nI (a >>> 2) ∧ ((nI a).toUInt32 >>> (Int32.toUInt32 4 &&& Int32.toUInt32 31)).toInt32 = nI (a >>> 4) ∧ ((nI a).toUInt32 >>> (Int32.toUInt32 8 &&& Int32.toUInt32 31)).toInt32 = nI (a >>> 8) ∧ ((nI a).toUInt32 >>> (Int32.toUInt32 16 &&& Int32.toUInt32 31)).toInt32 = nI (a >>> 16) := by
  have gen : ∀ (k : UInt32) (j : Nat), k.toNat % 32 = j → ((nI a).toUInt32 >>> k).toInt32 = nI (a >>> j) := by
    intro k j hk
    apply Int32.toBitVec_inj.mp
    apply BitVec.eq_of_toNat_eq
    have e : ((nI a).toUInt32 >>> k).toInt32.toBitVec.toNat = ((nI a).toUInt32 >>> k).toNat := rfl
    rw [e, UInt32.toNat_shiftRight, hk, nI_bv, BitVec.toNat_ofNat]
    have e2 : (nI a).toUInt32.toNat = a := by
      have : (nI a).toUInt32.toNat = (nI a).toBitVec.toNat := rfl
      rw [this, nI_bv, BitVec.toNat_ofNat, Nat.mod_eq_of_lt (by omega)]
    rw [e2, Nat.mod_eq_of_lt]
    exact Nat.lt_of_le_of_lt (Nat.shiftRight_le a j) (by omega)
  exact ⟨gen _ 1 (by decide +kernel), gen _ 2 (by decide +kernel), gen _ 4 (by decide +kernel), gen _ 8 (by decide +kernel), gen _ 16 (by decide +kernel)⟩
theorem nI_subm {a b : Nat} (h : b ≤ a) : nI a - nI b = nI (a - b) := by
  obtain ⟨c, rfl⟩ : ∃ c, a = b + c := ⟨a - b, by omega⟩
  rw [← nI_addm, Nat.add_sub_cancel_left, Int32.add_comm, Int32.add_sub_cancel]
def ds4 (f : Nat → Nat) : Nat → Nat
  | 0 => 0
  | N + 1 => 4 * ds4 f N + f N
def ds16 (f : Nat → Nat) : Nat → Nat
  | 0 => 0
  | N + 1 => 16 * ds16 f N + f N
theorem land4 (m : Nat) (hm : m < 4) (f : Nat → Nat) (hf : ∀ i, f i < 4) : ∀ N, ds4 f N &&& ds4 (fun _ => m) N = ds4 (fun i => f i &&& m) N := by
  intro N
  induction N with
  | zero => exact Nat.and_zero 0
  | succ N ih =>
    have := land_dig (s := 2) (hf N) hm (ds4 f N) (ds4 (fun _ => m) N)
    show (4 * ds4 f N + f N) &&& (4 * ds4 (fun _ => m) N + m) = 4 * ds4 (fun i => f i &&& m) N + (f N &&& m)
    rw [← ih]
    exact this
theorem land16 (m : Nat) (hm : m < 16) (f : Nat → Nat) (hf : ∀ i, f i < 16) : ∀ N, ds16 f N &&& ds16 (fun _ => m) N = ds16 (fun i => f i &&& m) N := by
  intro N
  induction N with
  | zero => exact Nat.and_zero 0
  | succ N ih =>
    have := land_dig (s := 4) (hf N) hm (ds16 f N) (ds16 (fun _ => m) N)
    show (16 * ds16 f N + f N) &&& (16 * ds16 (fun _ => m) N + m) = 16 * ds16 (fun i => f i &&& m) N + (f N &&& m)
    rw [← ih]
    exact this
/-- a mask that goes on above the number's bits -/
theorem land_top {x : Nat} (hx : x < 2 ^ 24) (hi lo : Nat) (hl : lo < 2 ^ 24) : x &&& (2 ^ 24 * hi + lo) = x &&& lo := by
  have h := land_dig (s := 24) hx hl 0 hi
  rw [Nat.mul_zero, Nat.zero_add, Nat.zero_and, Nat.mul_zero, Nat.zero_add] at h
  exact h
/-- the digits of the mask: two bits in one, the highest first -/
noncomputable def dig (P : Nat → Prop) (i : Nat) : Nat := cN (P (22 - 2 * i)) + 2 * cN (P (23 - 2 * i))
theorem and_2 (a b : Nat) (ha : a ≤ 1) (hb : b ≤ 1) : (a + 2 * b) &&& 2 = 2 * b := by
  have : ∀ a ∈ List.range 2, ∀ b ∈ List.range 2, (a + 2 * b) &&& 2 = 2 * b := by decide
  exact this a (List.mem_range.mpr (by omega)) b (List.mem_range.mpr (by omega))
theorem and_3 (a b : Nat) (ha : a ≤ 3) (hb : b ≤ 3) : (a + 4 * b) &&& 3 = a ∧ (a + 4 * b) &&& 12 = 4 * b := by
  have : ∀ a ∈ List.range 4, ∀ b ∈ List.range 4, (a + 4 * b) &&& 3 = a ∧ (a + 4 * b) &&& 12 = 4 * b := by decide
  exact this a (List.mem_range.mpr (by omega)) b (List.mem_range.mpr (by omega))
theorem bits_mk {n : Nat} {Sh : Sp} {M : Mm} (P : Nat → Prop) : fJ6_bitCount_0f7a4 n Sh M (mk P) = some (nI (cnt P 24)) := by
  have c : ∀ i, cN (P i) ≤ 1 := fun i => cN_le (P i)
  have h0 := c 0; have h1 := c 1; have h2 := c 2; have h3 := c 3; have h4 := c 4; have h5 := c 5; have h6 := c 6; have h7 := c 7; have h8 := c 8; have h9 := c 9; have h10 := c 10; have h11 := c 11; have h12 := c 12; have h13 := c 13; have h14 := c 14; have h15 := c 15; have h16 := c 16; have h17 := c 17; have h18 := c 18; have h19 := c 19; have h20 := c 20; have h21 := c 21; have h22 := c 22; have h23 := c 23
  have hx : mkN P 24 = ds4 (dig P) 12 := by
    simp only [mkN, dig, ds4, Nat.reduceMul, Nat.reduceSub]
    omega
  have hc : cnt P 24 = cN (P 0) + cN (P 1) + cN (P 2) + cN (P 3) + cN (P 4) + cN (P 5) + cN (P 6) + cN (P 7) + cN (P 8) + cN (P 9) + cN (P 10) + cN (P 11) + cN (P 12) + cN (P 13) + cN (P 14) + cN (P 15) + cN (P 16) + cN (P 17) + cN (P 18) + cN (P 19) + cN (P 20) + cN (P 21) + cN (P 22) + cN (P 23) := by
    simp only [cnt]
    omega
  have hlt := mkN_lt P 24
  -- stage 1
  have s1 : (mkN P 24 >>> 1) &&& 1431655765 = ds4 (fun i => cN (P (23 - 2 * i))) 12 := by
    have e1 : (1431655765 : Nat) = 2863311530 >>> 1 := by decide
    have e2 : (mkN P 24) &&& 2863311530 = (mkN P 24) &&& ds4 (fun _ => 2) 12 := by
      have : (2863311530 : Nat) = 2 ^ 24 * 170 + ds4 (fun _ => 2) 12 := by decide
      rw [this]
      exact land_top hlt 170 _ (by decide)
    rw [e1, ← Nat.shiftRight_and_distrib, e2, hx, land4 2 (by decide) (dig P) (fun i => by unfold dig; have := c (22 - 2 * i); have := c (23 - 2 * i); omega)]
    have e3 : (fun i => dig P i &&& 2) = (fun i => 2 * cN (P (23 - 2 * i))) := by
      funext i
      unfold dig
      rw [and_2 _ _ (c _) (c _)]
    rw [e3, Nat.shiftRight_eq_div_pow]
    simp only [ds4, Nat.reduceMul, Nat.reduceSub]
    omega
  have v1 : mkN P 24 - ((mkN P 24 >>> 1) &&& 1431655765) = ds16 (fun i => cN (P (20 - 4 * i)) + cN (P (21 - 4 * i)) + 4 * (cN (P (22 - 4 * i)) + cN (P (23 - 4 * i)))) 6 := by
    rw [s1, hx]
    simp only [dig, ds4, ds16, Nat.reduceMul, Nat.reduceSub]
    omega
  have v1le : (mkN P 24 >>> 1) &&& 1431655765 ≤ mkN P 24 := by
    rw [s1, hx]
    simp only [dig, ds4, Nat.reduceMul, Nat.reduceSub]
    omega
  generalize hV1 : mkN P 24 - ((mkN P 24 >>> 1) &&& 1431655765) = V1 at *
  have hV1lt : V1 < 2 ^ 24 := by omega
  have hd16 : ∀ i, cN (P (20 - 4 * i)) + cN (P (21 - 4 * i)) + 4 * (cN (P (22 - 4 * i)) + cN (P (23 - 4 * i))) < 16 := fun i => by
    have := c (20 - 4 * i); have := c (21 - 4 * i); have := c (22 - 4 * i); have := c (23 - 4 * i)
    omega
  -- stage 2
  have s2a : V1 &&& 858993459 = ds16 (fun i => cN (P (20 - 4 * i)) + cN (P (21 - 4 * i))) 6 := by
    have e2 : V1 &&& 858993459 = V1 &&& ds16 (fun _ => 3) 6 := by
      have : (858993459 : Nat) = 2 ^ 24 * 51 + ds16 (fun _ => 3) 6 := by decide
      rw [this]
      exact land_top hV1lt 51 _ (by decide)
    rw [e2, v1, land16 3 (by decide) _ hd16]
    congr 1
    funext i
    exact (and_3 _ _ (by have := c (20 - 4 * i); have := c (21 - 4 * i); omega) (by have := c (22 - 4 * i); have := c (23 - 4 * i); omega)).1
  have s2b : (V1 >>> 2) &&& 858993459 = ds16 (fun i => cN (P (22 - 4 * i)) + cN (P (23 - 4 * i))) 6 := by
    have e1 : (858993459 : Nat) = 3435973836 >>> 2 := by decide
    have e2 : V1 &&& 3435973836 = V1 &&& ds16 (fun _ => 12) 6 := by
      have : (3435973836 : Nat) = 2 ^ 24 * 204 + ds16 (fun _ => 12) 6 := by decide
      rw [this]
      exact land_top hV1lt 204 _ (by decide)
    rw [e1, ← Nat.shiftRight_and_distrib, e2, v1, land16 12 (by decide) _ hd16]
    have e3 : (fun i => (cN (P (20 - 4 * i)) + cN (P (21 - 4 * i)) + 4 * (cN (P (22 - 4 * i)) + cN (P (23 - 4 * i)))) &&& 12) = (fun i => 4 * (cN (P (22 - 4 * i)) + cN (P (23 - 4 * i)))) := by
      funext i
      exact (and_3 _ _ (by have := c (20 - 4 * i); have := c (21 - 4 * i); omega) (by have := c (22 - 4 * i); have := c (23 - 4 * i); omega)).2
    rw [e3, Nat.shiftRight_eq_div_pow]
    simp only [ds16, Nat.reduceMul, Nat.reduceSub]
    omega
  have v2 : (V1 &&& 858993459) + ((V1 >>> 2) &&& 858993459) = ds16 (fun i => cN (P (20 - 4 * i)) + cN (P (21 - 4 * i)) + cN (P (22 - 4 * i)) + cN (P (23 - 4 * i))) 6 := by
    rw [s2a, s2b]
    simp only [ds16, Nat.reduceMul, Nat.reduceSub]
    omega
  generalize hV2 : (V1 &&& 858993459) + ((V1 >>> 2) &&& 858993459) = V2 at *
  -- stage 3
  have v3 : V2 + (V2 >>> 4) = 65536 * (16 * (cN (P 20) + cN (P 21) + cN (P 22) + cN (P 23)) + (cN (P 16) + cN (P 17) + cN (P 18) + cN (P 19) + (cN (P 20) + cN (P 21) + cN (P 22) + cN (P 23)))) + 256 * (16 * (cN (P 12) + cN (P 13) + cN (P 14) + cN (P 15) + (cN (P 16) + cN (P 17) + cN (P 18) + cN (P 19))) + (cN (P 8) + cN (P 9) + cN (P 10) + cN (P 11) + (cN (P 12) + cN (P 13) + cN (P 14) + cN (P 15)))) + (16 * (cN (P 4) + cN (P 5) + cN (P 6) + cN (P 7) + (cN (P 8) + cN (P 9) + cN (P 10) + cN (P 11))) + (cN (P 0) + cN (P 1) + cN (P 2) + cN (P 3) + (cN (P 4) + cN (P 5) + cN (P 6) + cN (P 7)))) := by
    rw [v2, Nat.shiftRight_eq_div_pow]
    simp only [ds16, Nat.reduceMul, Nat.reduceSub]
    omega
  have hV2lt : V2 < 2 ^ 24 := by
    rw [v2]
    simp only [ds16, Nat.reduceMul, Nat.reduceSub]
    omega
  sorry
