/-! ===== LEVEL 2: how many bits ===== -/
theorem land_dig {s a c : Nat} (ha : a < 2 ^ s) (hc : c < 2 ^ s) (b d : Nat) : (2 ^ s * b + a) &&& (2 ^ s * d + c) = 2 ^ s * (b &&& d) + (a &&& c) := by
  apply Nat.eq_of_testBit_eq
  intro i
  rw [Nat.testBit_and, Nat.testBit_two_pow_mul_add _ ha, Nat.testBit_two_pow_mul_add _ hc, Nat.testBit_two_pow_mul_add _ (Nat.lt_of_le_of_lt Nat.and_le_left ha)]
  by_cases h : i < s
  · rw [if_pos h, if_pos h, if_pos h, Nat.testBit_and]
  · rw [if_neg h, if_neg h, if_neg h, Nat.testBit_and]
theorem nI_ushr {a : Nat} (ha : a < 2 ^ 31) : ((nI a).toUInt32 >>> (Int32.toUInt32 1 &&& Int32.toUInt32 31)).toInt32 = nI (a >>> 1) ∧ ((nI a).toUInt32 >>> (Int32.toUInt32 2 &&& Int32.toUInt32 31)).toInt32 = nI (a >>> 2) ∧ ((nI a).toUInt32 >>> (Int32.toUInt32 4 &&& Int32.toUInt32 31)).toInt32 = nI (a >>> 4) ∧ ((nI a).toUInt32 >>> (Int32.toUInt32 8 &&& Int32.toUInt32 31)).toInt32 = nI (a >>> 8) ∧ ((nI a).toUInt32 >>> (Int32.toUInt32 16 &&& Int32.toUInt32 31)).toInt32 = nI (a >>> 16) := by
  have gen : ∀ (k : UInt32) (j : Nat), k.toNat % 32 = j → ((nI a).toUInt32 >>> k).toInt32 = nI (a >>> j) := by
    intro k j hk
    apply Int32.toBitVec_inj.mp
    apply BitVec.eq_of_toNat_eq
    have e : ((nI a).toUInt32 >>> k).toInt32.toBitVec.toNat = ((nI a).toUInt32 >>> k).toNat := rfl
    rw [e, UInt32.toNat_shiftRight, hk, nI_bv, BitVec.toNat_ofNat]
    have e2 : (nI a).toUInt32.toNat = a := by
      have : (nI a).toUInt32.toNat = (nI a).toBitVec.toNat := rfl
      rw [this, nI_bv, BitVec.toNat_ofNat, Nat.mod_eq_of_lt (by omega)]
    rw [e2, Nat.mod_eq_of_lt]
    exact Nat.lt_of_le_of_lt (Nat.shiftRight_le a j) (by omega)
  exact ⟨gen _ 1 (by decide +kernel), gen _ 2 (by decide +kernel), gen _ 4 (by decide +kernel), gen _ 8 (by decide +kernel), gen _ 16 (by decide +kernel)⟩
theorem nI_subm {a b : Nat} (h : b ≤ a) : nI a - nI b = nI (a - b) := by
  obtain ⟨c, rfl⟩ : ∃ c, a = b + c := ⟨a - b, by omega⟩
  rw [← nI_addm, Nat.add_sub_cancel_left, Int32.add_comm, Int32.add_sub_cancel]
def ds4 (f : Nat → Nat) : Nat → Nat
  | 0 => 0
  | N + 1 => 4 * ds4 f N + f N
def ds16 (f : Nat → Nat) : Nat → Nat
  | 0 => 0
  | N + 1 => 16 * ds16 f N + f N
theorem land4 (m : Nat) (hm : m < 4) (f : Nat → Nat) (hf : ∀ i, f i < 4) : ∀ N, ds4 f N &&& ds4 (fun _ => m) N = ds4 (fun i => f i &&& m) N := by
  intro N
  induction N with
  | zero => exact Nat.and_zero 0
  | succ N ih =>
    have := land_dig (s := 2) (hf N) hm (ds4 f N) (ds4 (fun _ => m) N)
    show (4 * ds4 f N + f N) &&& (4 * ds4 (fun _ => m) N + m) = 4 * ds4 (fun i => f i &&& m) N + (f N &&& m)
    rw [← ih]
    exact this
theorem land16 (m : Nat) (hm : m < 16) (f : Nat → Nat) (hf : ∀ i, f i < 16) : ∀ N, ds16 f N &&& ds16 (fun _ => m) N = ds16 (fun i => f i &&& m) N := by
  intro N
  induction N with
  | zero => exact Nat.and_zero 0
  | succ N ih =>
    have := land_dig (s := 4) (hf N) hm (ds16 f N) (ds16 (fun _ => m) N)
    show (16 * ds16 f N + f N) &&& (16 * ds16 (fun _ => m) N + m) = 16 * ds16 (fun i => f i &&& m) N + (f N &&& m)
    rw [← ih]
    exact this
/-- a mask that goes on above the number's bits -/
theorem land_top {x : Nat} (hx : x < 2 ^ 24) (hi lo : Nat) (hl : lo < 2 ^ 24) : x &&& (2 ^ 24 * hi + lo) = x &&& lo := by
  have h := land_dig (s := 24) hx hl 0 hi
  rw [Nat.mul_zero, Nat.zero_add, Nat.zero_and, Nat.mul_zero, Nat.zero_add] at h
  exact h
/-- the digits of the mask: two bits in one, the highest first -/
noncomputable def dig (P : Nat → Prop) (i : Nat) : Nat := cN (P (22 - 2 * i)) + 2 * cN (P (23 - 2 * i))
theorem and_2 (a b : Nat) (ha : a ≤ 1) (hb : b ≤ 1) : (a + 2 * b) &&& 2 = 2 * b := by
  have : ∀ a ∈ List.range 2, ∀ b ∈ List.range 2, (a + 2 * b) &&& 2 = 2 * b := by decide
  exact this a (List.mem_range.mpr (by omega)) b (List.mem_range.mpr (by omega))
theorem and_3 (a b : Nat) (ha : a ≤ 3) (hb : b ≤ 3) : (a + 4 * b) &&& 3 = a ∧ (a + 4 * b) &&& 12 = 4 * b := by
  have : ∀ a ∈ List.range 4, ∀ b ∈ List.range 4, (a + 4 * b) &&& 3 = a ∧ (a + 4 * b) &&& 12 = 4 * b := by decide
  exact this a (List.mem_range.mpr (by omega)) b (List.mem_range.mpr (by omega))
theorem ds4_add (f g : Nat → Nat) : ∀ N, ds4 (fun i => f i + g i) N = ds4 f N + ds4 g N
  | 0 => rfl
  | N + 1 => by
    have ih := ds4_add f g N
    show 4 * ds4 (fun i => f i + g i) N + (f N + g N) = (4 * ds4 f N + f N) + (4 * ds4 g N + g N)
    omega
theorem ds4_two (g : Nat → Nat) : ∀ N, ds4 (fun i => 2 * g i) N = 2 * ds4 g N
  | 0 => rfl
  | N + 1 => by
    have ih := ds4_two g N
    show 4 * ds4 (fun i => 2 * g i) N + 2 * g N = 2 * (4 * ds4 g N + g N)
    omega
theorem ds16_add (f g : Nat → Nat) : ∀ N, ds16 (fun i => f i + g i) N = ds16 f N + ds16 g N
  | 0 => rfl
  | N + 1 => by
    have ih := ds16_add f g N
    show 16 * ds16 (fun i => f i + g i) N + (f N + g N) = (16 * ds16 f N + f N) + (16 * ds16 g N + g N)
    omega
theorem ds16_four (g : Nat → Nat) : ∀ N, ds16 (fun i => 4 * g i) N = 4 * ds16 g N
  | 0 => rfl
  | N + 1 => by
    have ih := ds16_four g N
    show 16 * ds16 (fun i => 4 * g i) N + 4 * g N = 4 * (16 * ds16 g N + g N)
    omega
theorem ds_pair (f : Nat → Nat) : ∀ N, ds4 f (2 * N) = ds16 (fun i => f (2 * i + 1) + 4 * f (2 * i)) N
  | 0 => rfl
  | N + 1 => by
    have ih := ds_pair f N
    show 4 * (4 * ds4 f (2 * N) + f (2 * N)) + f (2 * N + 1) = 16 * ds16 (fun i => f (2 * i + 1) + 4 * f (2 * i)) N + (f (2 * N + 1) + 4 * f (2 * N))
    omega
/-- how many of the two -/
noncomputable def dgs (P : Nat → Prop) (i : Nat) : Nat := cN (P (22 - 2 * i)) + cN (P (23 - 2 * i))
noncomputable def dgh (P : Nat → Prop) (i : Nat) : Nat := cN (P (23 - 2 * i))
theorem dgs_le (P : Nat → Prop) (i : Nat) : dgs P i ≤ 2 := Nat.add_le_add (cN_le _) (cN_le _)
theorem mkN_two (P : Nat → Prop) (k i : Nat) (h : 2 * i + 2 + 2 * k = 24) : mkN P (2 * k + 2) = 4 ^ k * dig P i + mkN P (2 * k) := by
  show 2 ^ (2 * k + 1) * cN (P (2 * k + 1)) + (2 ^ (2 * k) * cN (P (2 * k)) + mkN P (2 * k)) = _
  unfold dig
  rw [show 22 - 2 * i = 2 * k by omega, show 23 - 2 * i = 2 * k + 1 by omega, Nat.pow_succ, Nat.pow_mul, Nat.mul_add, show 2 ^ 2 = 4 from rfl, Nat.mul_assoc (4 ^ k) 2, ← Nat.add_assoc, Nat.add_comm (4 ^ k * (2 * _))]
theorem mkN_part (P : Nat → Prop) : ∀ N, N ≤ 12 → mkN P 24 = 4 ^ (12 - N) * ds4 (dig P) N + mkN P (24 - 2 * N)
  | 0, _ => by
    show mkN P 24 = 4 ^ 12 * 0 + mkN P 24
    rw [Nat.mul_zero, Nat.zero_add]
  | N + 1, h => by
    rw [mkN_part P N (by omega), show 24 - 2 * N = 2 * (11 - N) + 2 by omega, mkN_two P (11 - N) N (by omega), show 12 - N = (11 - N) + 1 by omega, show 12 - (N + 1) = 11 - N by omega, show 24 - 2 * (N + 1) = 2 * (11 - N) by omega, Nat.pow_succ]
    show _ = 4 ^ (11 - N) * (4 * ds4 (dig P) N + dig P N) + _
    rw [Nat.mul_add, Nat.mul_assoc, Nat.add_assoc]
theorem mkN_ds (P : Nat → Prop) : mkN P 24 = ds4 (dig P) 12 := by
  have h := mkN_part P 12 (Nat.le_refl _)
  rw [show 12 - 12 = 0 from rfl, Nat.pow_zero, Nat.one_mul] at h
  exact h
theorem mkN_sh (P : Nat → Prop) : mkN P 24 = ds4 (dgs P) 12 + ds4 (dgh P) 12 := by
  rw [mkN_ds, ← ds4_add]
  congr 1
  funext i
  unfold dig dgs dgh
  omega
theorem bits1 (P : Nat → Prop) : (mkN P 24 >>> 1) &&& 1431655765 = ds4 (dgh P) 12 := by
  have hlt := mkN_lt P 24
  have e2 : (mkN P 24) &&& 2863311530 = (mkN P 24) &&& ds4 (fun _ => 2) 12 := by
    have h : (2863311530 : Nat) = 2 ^ 24 * 170 + ds4 (fun _ => 2) 12 := by decide +kernel
    rw [h]
    exact land_top hlt 170 _ (by decide +kernel)
  have e1 : (1431655765 : Nat) = 2863311530 >>> 1 := by decide +kernel
  have e3 : (fun i => dig P i &&& 2) = (fun i => 2 * dgh P i) := by
    funext i
    unfold dig dgh
    exact and_2 _ _ (cN_le _) (cN_le _)
  have hd : ∀ i, dig P i < 4 := fun i => by
    unfold dig
    have := cN_le (P (22 - 2 * i))
    have := cN_le (P (23 - 2 * i))
    omega
  rw [e1, ← Nat.shiftRight_and_distrib, e2, mkN_ds, land4 2 (by decide) (dig P) hd, e3, ds4_two, Nat.shiftRight_eq_div_pow]
  exact Nat.mul_div_cancel_left _ (by decide)
/-- the four, high first -/
noncomputable def dq (P : Nat → Prop) (i : Nat) : Nat := dgs P (2 * i + 1) + dgs P (2 * i)
theorem bits2a (P : Nat → Prop) (h : ds4 (dgs P) 12 < 2 ^ 24) : ds4 (dgs P) 12 &&& 858993459 = ds16 (fun i => dgs P (2 * i + 1)) 6 := by
  have e2 : ds4 (dgs P) 12 &&& 858993459 = ds4 (dgs P) 12 &&& ds16 (fun _ => 3) 6 := by
    have hh : (858993459 : Nat) = 2 ^ 24 * 51 + ds16 (fun _ => 3) 6 := by decide +kernel
    rw [hh]
    exact land_top h 51 _ (by decide +kernel)
  have hd : ∀ i, dgs P (2 * i + 1) + 4 * dgs P (2 * i) < 16 := fun i => by
    have := dgs_le P (2 * i + 1)
    have := dgs_le P (2 * i)
    omega
  rw [e2, show (12 : Nat) = 2 * 6 from rfl, ds_pair, land16 3 (by decide) _ hd]
  congr 1
  funext i
  exact (and_3 _ _ (by have := dgs_le P (2 * i + 1); omega) (by have := dgs_le P (2 * i); omega)).1
theorem bits2b (P : Nat → Prop) (h : ds4 (dgs P) 12 < 2 ^ 24) : (ds4 (dgs P) 12 >>> 2) &&& 858993459 = ds16 (fun i => dgs P (2 * i)) 6 := by
  have e2 : ds4 (dgs P) 12 &&& 3435973836 = ds4 (dgs P) 12 &&& ds16 (fun _ => 12) 6 := by
    have hh : (3435973836 : Nat) = 2 ^ 24 * 204 + ds16 (fun _ => 12) 6 := by decide +kernel
    rw [hh]
    exact land_top h 204 _ (by decide +kernel)
  have e1 : (858993459 : Nat) = 3435973836 >>> 2 := by decide +kernel
  have hd : ∀ i, dgs P (2 * i + 1) + 4 * dgs P (2 * i) < 16 := fun i => by
    have := dgs_le P (2 * i + 1)
    have := dgs_le P (2 * i)
    omega
  have e3 : (fun i => (dgs P (2 * i + 1) + 4 * dgs P (2 * i)) &&& 12) = (fun i => 4 * dgs P (2 * i)) := by
    funext i
    exact (and_3 _ _ (by have := dgs_le P (2 * i + 1); omega) (by have := dgs_le P (2 * i); omega)).2
  rw [e1, ← Nat.shiftRight_and_distrib, e2, show (12 : Nat) = 2 * 6 from rfl, ds_pair, show 2 * 6 = 12 from rfl, land16 12 (by decide) _ hd, e3, ds16_four, Nat.shiftRight_eq_div_pow]
  exact Nat.mul_div_cancel_left _ (by decide)
theorem bits2 (P : Nat → Prop) (h : ds4 (dgs P) 12 < 2 ^ 24) : (ds4 (dgs P) 12 &&& 858993459) + ((ds4 (dgs P) 12 >>> 2) &&& 858993459) = ds16 (dq P) 6 := by
  rw [bits2a P h, bits2b P h, ← ds16_add]
  rfl
theorem cnt_q (P : Nat → Prop) : cnt P 24 = dq P 0 + dq P 1 + dq P 2 + dq P 3 + dq P 4 + dq P 5 := by
  have e : ∀ k i, 4 * i + 4 + 4 * k = 24 → cnt P (4 * k + 4) = dq P i + cnt P (4 * k) := fun k i h => by
    unfold dq dgs
    rw [show 22 - 2 * (2 * i + 1) = 4 * k by omega, show 23 - 2 * (2 * i + 1) = 4 * k + 1 by omega, show 22 - 2 * (2 * i) = 4 * k + 2 by omega, show 23 - 2 * (2 * i) = 4 * k + 3 by omega]
    simp only [cnt]
    omega
  have e0 : cnt P (4 * 0) = 0 := rfl
  have h0 := e 5 0 rfl
  have h1 := e 4 1 rfl
  have h2 := e 3 2 rfl
  have h3 := e 2 3 rfl
  have h4 := e 1 4 rfl
  have h5 := e 0 5 rfl
  rw [e0] at h5
  rw [show 4 * 0 + 4 = 4 * 1 from rfl] at h5
  rw [show 4 * 1 + 4 = 4 * 2 from rfl] at h4
  rw [show 4 * 2 + 4 = 4 * 3 from rfl] at h3
  rw [show 4 * 3 + 4 = 4 * 4 from rfl] at h2
  rw [show 4 * 4 + 4 = 4 * 5 from rfl] at h1
  rw [show 24 = 4 * 5 + 4 from rfl, h0, h1, h2, h3, h4, h5]
  omega
theorem bits_mk {n : Nat} {Sh : Sp} {M : Mm} (P : Nat → Prop) : fJ6_bitCount_0f7a4 n Sh M (mk P) = some (nI (cnt P 24)) := by
  sorry
