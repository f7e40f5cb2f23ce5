/-! ===== LEVEL 2: how many bits ===== -/
theorem land_dig {s a c : Nat} (ha : a < 2 ^ s) (hc : c < 2 ^ s) (b d : Nat) : (2 ^ s * b + a) &&& (2 ^ s * d + c) = 2 ^ s * (b &&& d) + (a &&& c) := by
  apply Nat.eq_of_testBit_eq
  intro i
  rw [Nat.testBit_and, Nat.testBit_two_pow_mul_add _ ha, Nat.testBit_two_pow_mul_add _ hc, Nat.testBit_two_pow_mul_add _ (Nat.lt_of_le_of_lt Nat.and_le_left ha)]
  by_cases h : i < s
  · rw [if_pos h, if_pos h, if_pos h, Nat.testBit_and]
  · rw [if_neg h, if_neg h, if_neg h, Nat.testBit_and]
theorem nI_ushr {a : Nat} (ha : a < 2 ^ 31) : ((nI a).toUInt32 >>> (Int32.toUInt32 1 &&& Int32.toUInt32 31)).toInt32 = nI (a >>> 1) ∧ ((nI a).toUInt32 >>> (Int32.toUInt32 2 &&& Int32.toUInt32 31)).toInt32 = nI (a >>> 2) ∧ ((nI a).toUInt32 >>> (Int32.toUInt32 4 &&& Int32.toUInt32 31)).toInt32 = nI (a >>> 4) ∧ ((nI a).toUInt32 >>> (Int32.toUInt32 8 &&& Int32.toUInt32 31)).toInt32 = nI (a >>> 8) ∧ ((nI a).toUInt32 >>> (Int32.toUInt32 16 &&& Int32.toUInt32 31)).toInt32 = nI (a >>> 16) := by
  have gen : ∀ (k : UInt32) (j : Nat), k.toNat % 32 = j → ((nI a).toUInt32 >>> k).toInt32 = nI (a >>> j) := by
    intro k j hk
    apply Int32.toBitVec_inj.mp
    apply BitVec.eq_of_toNat_eq
    have e : ((nI a).toUInt32 >>> k).toInt32.toBitVec.toNat = ((nI a).toUInt32 >>> k).toNat := rfl
    rw [e, UInt32.toNat_shiftRight, hk, nI_bv, BitVec.toNat_ofNat]
    have e2 : (nI a).toUInt32.toNat = a := by
      have : (nI a).toUInt32.toNat = (nI a).toBitVec.toNat := rfl
      rw [this, nI_bv, BitVec.toNat_ofNat, Nat.mod_eq_of_lt (by omega)]
    rw [e2, Nat.mod_eq_of_lt]
    exact Nat.lt_of_le_of_lt (Nat.shiftRight_le a j) (by omega)
  exact ⟨gen _ 1 (by decide +kernel), gen _ 2 (by decide +kernel), gen _ 4 (by decide +kernel), gen _ 8 (by decide +kernel), gen _ 16 (by decide +kernel)⟩
theorem nI_subm {a b : Nat} (h : b ≤ a) : nI a - nI b = nI (a - b) := by
  obtain ⟨c, rfl⟩ : ∃ c, a = b + c := ⟨a - b, by omega⟩
  rw [← nI_addm, Nat.add_sub_cancel_left, Int32.add_comm, Int32.add_sub_cancel]
def ds4 (f : Nat → Nat) : Nat → Nat
  | 0 => 0
  | N + 1 => 4 * ds4 f N + f N
def ds16 (f : Nat → Nat) : Nat → Nat
  | 0 => 0
  | N + 1 => 16 * ds16 f N + f N
theorem land4 (m : Nat) (hm : m < 4) (f : Nat → Nat) (hf : ∀ i, f i < 4) : ∀ N, ds4 f N &&& ds4 (fun _ => m) N = ds4 (fun i => f i &&& m) N := by
  intro N
  induction N with
  | zero => exact Nat.and_zero 0
  | succ N ih =>
    have := land_dig (s := 2) (hf N) hm (ds4 f N) (ds4 (fun _ => m) N)
    show (4 * ds4 f N + f N) &&& (4 * ds4 (fun _ => m) N + m) = 4 * ds4 (fun i => f i &&& m) N + (f N &&& m)
    rw [← ih]
    exact this
theorem land16 (m : Nat) (hm : m < 16) (f : Nat → Nat) (hf : ∀ i, f i < 16) : ∀ N, ds16 f N &&& ds16 (fun _ => m) N = ds16 (fun i => f i &&& m) N := by
  intro N
  induction N with
  | zero => exact Nat.and_zero 0
  | succ N ih =>
    have := land_dig (s := 4) (hf N) hm (ds16 f N) (ds16 (fun _ => m) N)
    show (16 * ds16 f N + f N) &&& (16 * ds16 (fun _ => m) N + m) = 16 * ds16 (fun i => f i &&& m) N + (f N &&& m)
    rw [← ih]
    exact this
/-- a mask that goes on above the number's bits -/
theorem land_top {x : Nat} (hx : x < 2 ^ 24) (hi lo : Nat) (hl : lo < 2 ^ 24) : x &&& (2 ^ 24 * hi + lo) = x &&& lo := by
  have h := land_dig (s := 24) hx hl 0 hi
  rw [Nat.mul_zero, Nat.zero_add, Nat.zero_and, Nat.mul_zero, Nat.zero_add] at h
  exact h
/-- the digits of the mask: two bits in one, the highest first -/
noncomputable def dig (P : Nat → Prop) (i : Nat) : Nat := cN (P (22 - 2 * i)) + 2 * cN (P (23 - 2 * i))
theorem and_2 (a b : Nat) (ha : a ≤ 1) (hb : b ≤ 1) : (a + 2 * b) &&& 2 = 2 * b := by
  have : ∀ a ∈ List.range 2, ∀ b ∈ List.range 2, (a + 2 * b) &&& 2 = 2 * b := by decide
  exact this a (List.mem_range.mpr (by omega)) b (List.mem_range.mpr (by omega))
theorem and_3 (a b : Nat) (ha : a ≤ 3) (hb : b ≤ 3) : (a + 4 * b) &&& 3 = a ∧ (a + 4 * b) &&& 12 = 4 * b := by
  have : ∀ a ∈ List.range 4, ∀ b ∈ List.range 4, (a + 4 * b) &&& 3 = a ∧ (a + 4 * b) &&& 12 = 4 * b := by decide
  exact this a (List.mem_range.mpr (by omega)) b (List.mem_range.mpr (by omega))
theorem bits_mk {n : Nat} {Sh : Sp} {M : Mm} (P : Nat → Prop) : fJ6_bitCount_0f7a4 n Sh M (mk P) = some (nI (cnt P 24)) := by
  sorry
