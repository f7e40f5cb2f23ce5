/-! ===== LEVEL 2: how many bits ===== -/
theorem land_dig {s a c : Nat} (ha : a < 2 ^ s) (hc : c < 2 ^ s) (b d : Nat) : (2 ^ s * b + a) &&& (2 ^ s * d + c) = 2 ^ s * (b &&& d) + (a &&& c) := by
  apply Nat.eq_of_testBit_eq
  intro i
  rw [Nat.testBit_and, Nat.testBit_two_pow_mul_add _ ha, Nat.testBit_two_pow_mul_add _ hc, Nat.testBit_two_pow_mul_add _ (Nat.lt_of_le_of_lt Nat.and_le_left ha)]
  by_cases h : i < s
  · rw [if_pos h, if_pos h, if_pos h, Nat.testBit_and]
  · rw [if_neg h, if_neg h, if_neg h, Nat.testBit_and]
theorem nI_ushr {a : Nat} (ha : a < 2 ^ 31) : ((nI a).toUInt32 >>> (Int32.toUInt32 1 &&& Int32.toUInt32 31)).toInt32 = nI (a >>> 1) ∧ ((nI a).toUInt32 >>> (Int32.toUInt32 2 &&& Int32.toUInt32 31)).toInt32 = nI (a >>> 2) ∧ ((nI a).toUInt32 >>> (Int32.toUInt32 4 &&& Int32.toUInt32 31)).toInt32 = nI (a >>> 4) ∧ ((nI a).toUInt32 >>> (Int32.toUInt32 8 &&& Int32.toUInt32 31)).toInt32 = nI (a >>> 8) ∧ ((nI a).toUInt32 >>> (Int32.toUInt32 16 &&& Int32.toUInt32 31)).toInt32 = nI (a >>> 16) := by
  have gen : ∀ (k : UInt32) (j : Nat), k.toNat % 32 = j → ((nI a).toUInt32 >>> k).toInt32 = nI (a >>> j) := by
    intro k j hk
    apply Int32.toBitVec_inj.mp
    apply BitVec.eq_of_toNat_eq
    have e : ((nI a).toUInt32 >>> k).toInt32.toBitVec.toNat = ((nI a).toUInt32 >>> k).toNat := rfl
    rw [e, UInt32.toNat_shiftRight, hk, nI_bv, BitVec.toNat_ofNat]
    have e2 : (nI a).toUInt32.toNat = a := by
      have : (nI a).toUInt32.toNat = (nI a).toBitVec.toNat := rfl
      rw [this, nI_bv, BitVec.toNat_ofNat, Nat.mod_eq_of_lt (by omega)]
    rw [e2, Nat.mod_eq_of_lt]
    exact Nat.lt_of_le_of_lt (Nat.shiftRight_le a j) (by omega)
  exact ⟨gen _ 1 (by decide +kernel), gen _ 2 (by decide +kernel), gen _ 4 (by decide +kernel), gen _ 8 (by decide +kernel), gen _ 16 (by decide +kernel)⟩
theorem nI_subm {a b : Nat} (h : b ≤ a) : nI a - nI b = nI (a - b) := by
  obtain ⟨c, rfl⟩ : ∃ c, a = b + c := ⟨a - b, by omega⟩
  rw [← nI_addm, Nat.add_sub_cancel_left, Int32.add_comm, Int32.add_sub_cancel]
def ds4 (f : Nat → Nat) : Nat → Nat
  | 0 => 0
  | N + 1 => 4 * ds4 f N + f N
def ds16 (f : Nat → Nat) : Nat → Nat
  | 0 => 0
  | N + 1 => 16 * ds16 f N + f N
theorem land4 (m : Nat) (hm : m < 4) (f : Nat → Nat) (hf : ∀ i, f i < 4) : ∀ N, ds4 f N &&& ds4 (fun _ => m) N = ds4 (fun i => f i &&& m) N := by
  intro N
  induction N with
  | zero => exact Nat.and_zero 0
  | succ N ih =>
    have := land_dig (s := 2) (hf N) hm (ds4 f N) (ds4 (fun _ => m) N)
    show (4 * ds4 f N + f N) &&& (4 * ds4 (fun _ => m) N + m) = 4 * ds4 (fun i => f i &&& m) N + (f N &&& m)
    rw [← ih]
    exact this
theorem land16 (m : Nat) (hm : m < 16) (f : Nat → Nat) (hf : ∀ i, f i < 16) : ∀ N, ds16 f N &&& ds16 (fun _ => m) N = ds16 (fun i => f i &&& m) N := by
  intro N
  induction N with
  | zero => exact Nat.and_zero 0
  | succ N ih =>
    have := land_dig (s := 4) (hf N) hm (ds16 f N) (ds16 (fun _ => m) N)
    show (16 * ds16 f N + f N) &&& (16 * ds16 (fun _ => m) N + m) = 16 * ds16 (fun i => f i &&& m) N + (f N &&& m)
    rw [← ih]
    exact this
/-- a mask that goes on above the number's bits -/
theorem land_top {x : Nat} (hx : x < 2 ^ 24) (hi lo : Nat) (hl : lo < 2 ^ 24) : x &&& (2 ^ 24 * hi + lo) = x &&& lo := by
  have h := land_dig (s := 24) hx hl 0 hi
  rw [Nat.mul_zero, Nat.zero_add, Nat.zero_and, Nat.mul_zero, Nat.zero_add] at h
  exact h
/-- the digits of the mask: two bits in one, the highest first -/
noncomputable def dig (P : Nat → Prop) (i : Nat) : Nat := cN (P (22 - 2 * i)) + 2 * cN (P (23 - 2 * i))
theorem and_2 (a b : Nat) (ha : a ≤ 1) (hb : b ≤ 1) : (a + 2 * b) &&& 2 = 2 * b := by
  have : ∀ a ∈ List.range 2, ∀ b ∈ List.range 2, (a + 2 * b) &&& 2 = 2 * b := by decide
  exact this a (List.mem_range.mpr (by omega)) b (List.mem_range.mpr (by omega))
theorem and_3 (a b : Nat) (ha : a ≤ 3) (hb : b ≤ 3) : (a + 4 * b) &&& 3 = a ∧ (a + 4 * b) &&& 12 = 4 * b := by
  have : ∀ a ∈ List.range 4, ∀ b ∈ List.range 4, (a + 4 * b) &&& 3 = a ∧ (a + 4 * b) &&& 12 = 4 * b := by decide
  exact this a (List.mem_range.mpr (by omega)) b (List.mem_range.mpr (by omega))
theorem ds4_add (f g : Nat → Nat) : ∀ N, ds4 (fun i => f i + g i) N = ds4 f N + ds4 g N
  | 0 => rfl
  | N + 1 => by
    have ih := ds4_add f g N
    show 4 * ds4 (fun i => f i + g i) N + (f N + g N) = (4 * ds4 f N + f N) + (4 * ds4 g N + g N)
    omega
theorem ds4_two (g : Nat → Nat) : ∀ N, ds4 (fun i => 2 * g i) N = 2 * ds4 g N
  | 0 => rfl
  | N + 1 => by
    have ih := ds4_two g N
    show 4 * ds4 (fun i => 2 * g i) N + 2 * g N = 2 * (4 * ds4 g N + g N)
    omega
theorem ds16_add (f g : Nat → Nat) : ∀ N, ds16 (fun i => f i + g i) N = ds16 f N + ds16 g N
  | 0 => rfl
  | N + 1 => by
    have ih := ds16_add f g N
    show 16 * ds16 (fun i => f i + g i) N + (f N + g N) = (16 * ds16 f N + f N) + (16 * ds16 g N + g N)
    omega
theorem ds16_four (g : Nat → Nat) : ∀ N, ds16 (fun i => 4 * g i) N = 4 * ds16 g N
  | 0 => rfl
  | N + 1 => by
    have ih := ds16_four g N
    show 16 * ds16 (fun i => 4 * g i) N + 4 * g N = 4 * (16 * ds16 g N + g N)
    omega
theorem ds_pair (f : Nat → Nat) : ∀ N, ds4 f (2 * N) = ds16 (fun i => f (2 * i + 1) + 4 * f (2 * i)) N
  | 0 => rfl
  | N + 1 => by
    have ih := ds_pair f N
    show 4 * (4 * ds4 f (2 * N) + f (2 * N)) + f (2 * N + 1) = 16 * ds16 (fun i => f (2 * i + 1) + 4 * f (2 * i)) N + (f (2 * N + 1) + 4 * f (2 * N))
    omega
/-- how many of the two -/
noncomputable def dgs (P : Nat → Prop) (i : Nat) : Nat := cN (P (22 - 2 * i)) + cN (P (23 - 2 * i))
noncomputable def dgh (P : Nat → Prop) (i : Nat) : Nat := cN (P (23 - 2 * i))
theorem dgs_le (P : Nat → Prop) (i : Nat) : dgs P i ≤ 2 := Nat.add_le_add (cN_le _) (cN_le _)
theorem mkN_two (P : Nat → Prop) (k i : Nat) (h : 2 * i + 2 + 2 * k = 24) : mkN P (2 * k + 2) = 4 ^ k * dig P i + mkN P (2 * k) := by
  show 2 ^ (2 * k + 1) * cN (P (2 * k + 1)) + (2 ^ (2 * k) * cN (P (2 * k)) + mkN P (2 * k)) = _
  unfold dig
  rw [show 22 - 2 * i = 2 * k by omega, show 23 - 2 * i = 2 * k + 1 by omega, Nat.pow_succ, Nat.pow_mul, Nat.mul_add, show 2 ^ 2 = 4 from rfl, Nat.mul_assoc (4 ^ k) 2, ← Nat.add_assoc, Nat.add_comm (4 ^ k * (2 * _))]
theorem mkN_part (P : Nat → Prop) : ∀ N, N ≤ 12 → mkN P 24 = 4 ^ (12 - N) * ds4 (dig P) N + mkN P (24 - 2 * N)
  | 0, _ => by
    show mkN P 24 = 4 ^ 12 * 0 + mkN P 24
    rw [Nat.mul_zero, Nat.zero_add]
  | N + 1, h => by
    rw [mkN_part P N (by omega), show 24 - 2 * N = 2 * (11 - N) + 2 by omega, mkN_two P (11 - N) N (by omega), show 12 - N = (11 - N) + 1 by omega, show 12 - (N + 1) = 11 - N by omega, show 24 - 2 * (N + 1) = 2 * (11 - N) by omega, Nat.pow_succ]
    show _ = 4 ^ (11 - N) * (4 * ds4 (dig P) N + dig P N) + _
    rw [Nat.mul_add, Nat.mul_assoc, Nat.add_assoc]
theorem mkN_ds (P : Nat → Prop) : mkN P 24 = ds4 (dig P) 12 := by
  have h := mkN_part P 12 (Nat.le_refl _)
  rw [show 12 - 12 = 0 from rfl, Nat.pow_zero, Nat.one_mul] at h
  exact h
theorem mkN_sh (P : Nat → Prop) : mkN P 24 = ds4 (dgs P) 12 + ds4 (dgh P) 12 := by
  rw [mkN_ds, ← ds4_add]
  congr 1
  funext i
  unfold dig dgs dgh
  omega
theorem bits1 (P : Nat → Prop) : (mkN P 24 >>> 1) &&& 1431655765 = ds4 (dgh P) 12 := by
  have hlt := mkN_lt P 24
  have e2 : (mkN P 24) &&& 2863311530 = (mkN P 24) &&& ds4 (fun _ => 2) 12 := by
    have h : (2863311530 : Nat) = 2 ^ 24 * 170 + ds4 (fun _ => 2) 12 := by decide +kernel
    rw [h]
    exact land_top hlt 170 _ (by decide +kernel)
  have e1 : (1431655765 : Nat) = 2863311530 >>> 1 := by decide +kernel
  have e3 : (fun i => dig P i &&& 2) = (fun i => 2 * dgh P i) := by
    funext i
    unfold dig dgh
    exact and_2 _ _ (cN_le _) (cN_le _)
  have hd : ∀ i, dig P i < 4 := fun i => by
    unfold dig
    have := cN_le (P (22 - 2 * i))
    have := cN_le (P (23 - 2 * i))
    omega
  rw [e1, ← Nat.shiftRight_and_distrib, e2, mkN_ds, land4 2 (by decide) (dig P) hd, e3, ds4_two, Nat.shiftRight_eq_div_pow]
  exact Nat.mul_div_cancel_left _ (by decide)
/-- the four, high first -/
noncomputable def dq (P : Nat → Prop) (i : Nat) : Nat := dgs P (2 * i + 1) + dgs P (2 * i)
theorem bits2a (P : Nat → Prop) (h : ds4 (dgs P) 12 < 2 ^ 24) : ds4 (dgs P) 12 &&& 858993459 = ds16 (fun i => dgs P (2 * i + 1)) 6 := by
  have e2 : ds4 (dgs P) 12 &&& 858993459 = ds4 (dgs P) 12 &&& ds16 (fun _ => 3) 6 := by
    have hh : (858993459 : Nat) = 2 ^ 24 * 51 + ds16 (fun _ => 3) 6 := by decide +kernel
    rw [hh]
    exact land_top h 51 _ (by decide +kernel)
  have hd : ∀ i, dgs P (2 * i + 1) + 4 * dgs P (2 * i) < 16 := fun i => by
    have := dgs_le P (2 * i + 1)
    have := dgs_le P (2 * i)
    omega
  rw [e2, show (12 : Nat) = 2 * 6 from rfl, ds_pair, land16 3 (by decide) _ hd]
  congr 1
  funext i
  exact (and_3 _ _ (by have := dgs_le P (2 * i + 1); omega) (by have := dgs_le P (2 * i); omega)).1
theorem bits2b (P : Nat → Prop) (h : ds4 (dgs P) 12 < 2 ^ 24) : (ds4 (dgs P) 12 >>> 2) &&& 858993459 = ds16 (fun i => dgs P (2 * i)) 6 := by
  have e2 : ds4 (dgs P) 12 &&& 3435973836 = ds4 (dgs P) 12 &&& ds16 (fun _ => 12) 6 := by
    have hh : (3435973836 : Nat) = 2 ^ 24 * 204 + ds16 (fun _ => 12) 6 := by decide +kernel
    rw [hh]
    exact land_top h 204 _ (by decide +kernel)
  have e1 : (858993459 : Nat) = 3435973836 >>> 2 := by decide +kernel
  have hd : ∀ i, dgs P (2 * i + 1) + 4 * dgs P (2 * i) < 16 := fun i => by
    have := dgs_le P (2 * i + 1)
    have := dgs_le P (2 * i)
    omega
  have e3 : (fun i => (dgs P (2 * i + 1) + 4 * dgs P (2 * i)) &&& 12) = (fun i => 4 * dgs P (2 * i)) := by
    funext i
    exact (and_3 _ _ (by have := dgs_le P (2 * i + 1); omega) (by have := dgs_le P (2 * i); omega)).2
  rw [e1, ← Nat.shiftRight_and_distrib, e2, show (12 : Nat) = 2 * 6 from rfl, ds_pair, show 2 * 6 = 12 from rfl, land16 12 (by decide) _ hd, e3, ds16_four, Nat.shiftRight_eq_div_pow]
  exact Nat.mul_div_cancel_left _ (by decide)
theorem bits2 (P : Nat → Prop) (h : ds4 (dgs P) 12 < 2 ^ 24) : (ds4 (dgs P) 12 &&& 858993459) + ((ds4 (dgs P) 12 >>> 2) &&& 858993459) = ds16 (dq P) 6 := by
  rw [bits2a P h, bits2b P h, ← ds16_add]
  rfl
theorem cnt_q (P : Nat → Prop) : cnt P 24 = dq P 0 + dq P 1 + dq P 2 + dq P 3 + dq P 4 + dq P 5 := by
  have e : ∀ k i, 4 * i + 4 + 4 * k = 24 → cnt P (4 * k + 4) = dq P i + cnt P (4 * k) := fun k i h => by
    unfold dq dgs
    rw [show 22 - 2 * (2 * i + 1) = 4 * k by omega, show 23 - 2 * (2 * i + 1) = 4 * k + 1 by omega, show 22 - 2 * (2 * i) = 4 * k + 2 by omega, show 23 - 2 * (2 * i) = 4 * k + 3 by omega]
    simp only [cnt]
    omega
  have e0 : cnt P (4 * 0) = 0 := rfl
  have h0 := e 5 0 rfl
  have h1 := e 4 1 rfl
  have h2 := e 3 2 rfl
  have h3 := e 2 3 rfl
  have h4 := e 1 4 rfl
  have h5 := e 0 5 rfl
  rw [e0] at h5
  rw [show 4 * 0 + 4 = 4 * 1 from rfl] at h5
  rw [show 4 * 1 + 4 = 4 * 2 from rfl] at h4
  rw [show 4 * 2 + 4 = 4 * 3 from rfl] at h3
  rw [show 4 * 3 + 4 = 4 * 4 from rfl] at h2
  rw [show 4 * 4 + 4 = 4 * 5 from rfl] at h1
  rw [show 24 = 4 * 5 + 4 from rfl, h0, h1, h2, h3, h4, h5]
  omega
theorem bits_run {n : Nat} {Sh : Sp} {M : Mm} {a v1 v2 v3 v4 v5 : Int32} (e1 : a - ((a.toUInt32 >>> (Int32.toUInt32 1 &&& Int32.toUInt32 31)).toInt32 &&& 1431655765) = v1) (e2 : (v1 &&& 858993459) + ((v1.toUInt32 >>> (Int32.toUInt32 2 &&& Int32.toUInt32 31)).toInt32 &&& 858993459) = v2) (e3 : (v2 + (v2.toUInt32 >>> (Int32.toUInt32 4 &&& Int32.toUInt32 31)).toInt32) &&& 252645135 = v3) (e4 : v3 + (v3.toUInt32 >>> (Int32.toUInt32 8 &&& Int32.toUInt32 31)).toInt32 = v4) (e5 : (v4 + (v4.toUInt32 >>> (Int32.toUInt32 16 &&& Int32.toUInt32 31)).toInt32) &&& 63 = v5) : fJ6_bitCount_0f7a4 n Sh M a = some v5 := by
  subst e5
  subst e4
  subst e3
  subst e2
  subst e1
  rfl
theorem bits_low (x l : Nat) (h : l < 16) : (16 * x + l) &&& 15 = l := by
  rw [show (15 : Nat) = 2 ^ 4 - 1 from rfl, Nat.and_two_pow_sub_one_eq_mod]
  omega
theorem bits3 {V x0 l0 x1 l1 x2 l2 : Nat} (b0 : x0 ≤ 8) (c0 : l0 ≤ 8) (b1 : x1 ≤ 8) (c1 : l1 ≤ 8) (b2 : x2 ≤ 8) (c2 : l2 ≤ 8) (hv : V = 65536 * (16 * x2 + l2) + 256 * (16 * x1 + l1) + (16 * x0 + l0)) : V &&& 252645135 = 65536 * l2 + 256 * l1 + l0 := by
  have e : (252645135 : Nat) = 2 ^ 24 * 15 + (2 ^ 8 * (2 ^ 8 * 15 + 15) + 15) := by decide +kernel
  have e2 : 65536 * (16 * x2 + l2) + 256 * (16 * x1 + l1) + (16 * x0 + l0) = 2 ^ 8 * (2 ^ 8 * (16 * x2 + l2) + (16 * x1 + l1)) + (16 * x0 + l0) := by omega
  rw [hv, e, land_top (by omega) 15 _ (by decide +kernel), e2, land_dig (s := 8) (by omega) (by decide +kernel), land_dig (s := 8) (by omega) (by decide +kernel), bits_low _ _ (by omega), bits_low _ _ (by omega), bits_low _ _ (by omega)]
  omega
theorem bits_t1 {x y : Nat} (hx : x < 2 ^ 24) (h : (x >>> 1) &&& 1431655765 = y) (hy : y ≤ x) : nI x - (((nI x).toUInt32 >>> (Int32.toUInt32 1 &&& Int32.toUInt32 31)).toInt32 &&& 1431655765) = nI (x - y) := by
  have e : (1431655765 : Int32) = nI 1431655765 := rfl
  rw [(nI_ushr (a := x) (by omega)).1, e, nI_and, h, nI_subm hy]
theorem bits_t2 {x y : Nat} (hx : x < 2 ^ 24) (h : (x &&& 858993459) + ((x >>> 2) &&& 858993459) = y) : (nI x &&& 858993459) + (((nI x).toUInt32 >>> (Int32.toUInt32 2 &&& Int32.toUInt32 31)).toInt32 &&& 858993459) = nI y := by
  have e : (858993459 : Int32) = nI 858993459 := rfl
  rw [(nI_ushr (a := x) (by omega)).2.1, e, nI_and, nI_and, nI_addm, h]
theorem bits_t3 {x y : Nat} (hx : x < 2 ^ 24) (h : (x + (x >>> 4)) &&& 252645135 = y) : (nI x + ((nI x).toUInt32 >>> (Int32.toUInt32 4 &&& Int32.toUInt32 31)).toInt32) &&& 252645135 = nI y := by
  have e : (252645135 : Int32) = nI 252645135 := rfl
  rw [(nI_ushr (a := x) (by omega)).2.2.1, e, nI_addm, nI_and, h]
theorem bits_t4 {x y : Nat} (hx : x < 2 ^ 24) (h : x + (x >>> 8) = y) : nI x + ((nI x).toUInt32 >>> (Int32.toUInt32 8 &&& Int32.toUInt32 31)).toInt32 = nI y := by
  rw [(nI_ushr (a := x) (by omega)).2.2.2.1, nI_addm, h]
theorem bits_t5 {x y : Nat} (hx : x < 2 ^ 24) (h : (x + (x >>> 16)) % 64 = y) : (nI x + ((nI x).toUInt32 >>> (Int32.toUInt32 16 &&& Int32.toUInt32 31)).toInt32) &&& 63 = nI y := by
  have e : (63 : Int32) = nI (2 ^ 6 - 1) := rfl
  rw [(nI_ushr (a := x) (by omega)).2.2.2.2, e, nI_addm, nI_and, Nat.and_two_pow_sub_one_eq_mod]
  show nI ((x + (x >>> 16)) % 64) = _
  rw [h]
theorem bits_4 {l0 l1 l2 : Nat} (c0 : l0 ≤ 8) (c1 : l1 ≤ 8) (c2 : l2 ≤ 8) : (65536 * l2 + 256 * l1 + l0) + ((65536 * l2 + 256 * l1 + l0) >>> 8) = 65536 * l2 + 256 * (l1 + l2) + (l0 + l1) := by
  rw [Nat.shiftRight_eq_div_pow]
  omega
theorem bits_5 {l0 l1 l2 : Nat} (c0 : l0 ≤ 8) (c1 : l1 ≤ 8) (c2 : l2 ≤ 8) : ((65536 * l2 + 256 * (l1 + l2) + (l0 + l1)) + ((65536 * l2 + 256 * (l1 + l2) + (l0 + l1)) >>> 16)) % 64 = l0 + l1 + l2 := by
  have e : (65536 * l2 + 256 * (l1 + l2) + (l0 + l1)) >>> 16 = l2 := by
    rw [Nat.shiftRight_eq_div_pow, show 2 ^ 16 = 65536 from rfl]
    omega
  have e2 : 65536 * l2 + 256 * (l1 + l2) + (l0 + l1) + l2 = 64 * (1024 * l2 + 4 * (l1 + l2)) + (l0 + l1 + l2) := by omega
  rw [e, e2, Nat.mul_add_mod, Nat.mod_eq_of_lt (by omega)]
theorem bits_16 {q0 q1 q2 q3 q4 q5 V : Nat} (h0 : q0 ≤ 4) (h1 : q1 ≤ 4) (h2 : q2 ≤ 4) (h3 : q3 ≤ 4) (h4 : q4 ≤ 4) (h5 : q5 ≤ 4) (hV : V = 16 * (16 * (16 * (16 * (16 * q0 + q1) + q2) + q3) + q4) + q5) : V + (V >>> 4) = 65536 * (16 * q0 + (q0 + q1)) + 256 * (16 * (q1 + q2) + (q2 + q3)) + (16 * (q3 + q4) + (q4 + q5)) := by
  have e : V >>> 4 = 16 * (16 * (16 * (16 * q0 + q1) + q2) + q3) + q4 := by
    rw [Nat.shiftRight_eq_div_pow]
    omega
  rw [e]
  omega
theorem bits_mk {n : Nat} {Sh : Sp} {M : Mm} (P : Nat → Prop) : fJ6_bitCount_0f7a4 n Sh M (mk P) = some (nI (cnt P 24)) := by
  have hlt := mkN_lt P 24
  have hs := mkN_sh P
  have b1 := bits1 P
  have hle : ds4 (dgh P) 12 ≤ mkN P 24 := by rw [hs]; exact Nat.le_add_left _ _
  have hd : mkN P 24 - ds4 (dgh P) 12 = ds4 (dgs P) 12 := by rw [hs]; exact Nat.add_sub_cancel _ _
  have hVlt : ds4 (dgs P) 12 < 2 ^ 24 := Nat.lt_of_le_of_lt (by rw [hs]; exact Nat.le_add_right _ _) hlt
  have b2 := bits2 P hVlt
  have hq : ∀ i, dq P i ≤ 4 := fun i => Nat.add_le_add (dgs_le P _) (dgs_le P _)
  have h0 := hq 0; have h1 := hq 1; have h2 := hq 2; have h3 := hq 3; have h4 := hq 4; have h5 := hq 5
  have hV2 : ds16 (dq P) 6 = 16 * (16 * (16 * (16 * (16 * dq P 0 + dq P 1) + dq P 2) + dq P 3) + dq P 4) + dq P 5 := by
    show 16 * (16 * (16 * (16 * (16 * (16 * 0 + dq P 0) + dq P 1) + dq P 2) + dq P 3) + dq P 4) + dq P 5 = _
    rw [Nat.mul_zero, Nat.zero_add]
  have hV2lt : ds16 (dq P) 6 < 2 ^ 24 := by
    rw [hV2]
    generalize dq P 0 = q0 at *
    generalize dq P 1 = q1 at *
    generalize dq P 2 = q2 at *
    generalize dq P 3 = q3 at *
    generalize dq P 4 = q4 at *
    generalize dq P 5 = q5 at *
    omega
  have b3 := bits_16 h0 h1 h2 h3 h4 h5 hV2
  have hc := cnt_q P
  have k0 : dq P 4 + dq P 5 ≤ 8 := Nat.add_le_add h4 h5
  have k1 : dq P 2 + dq P 3 ≤ 8 := Nat.add_le_add h2 h3
  have k2 : dq P 0 + dq P 1 ≤ 8 := Nat.add_le_add h0 h1
  have b4 := bits3 (show dq P 3 + dq P 4 ≤ 8 from Nat.add_le_add h3 h4) k0 (show dq P 1 + dq P 2 ≤ 8 from Nat.add_le_add h1 h2) k1 (show dq P 0 ≤ 8 from Nat.le_trans h0 (by decide)) k2 b3
  have hl3 : 65536 * (dq P 0 + dq P 1) + 256 * (dq P 2 + dq P 3) + (dq P 4 + dq P 5) < 2 ^ 24 := by
    generalize dq P 0 + dq P 1 = a2 at *
    generalize dq P 2 + dq P 3 = a1 at *
    generalize dq P 4 + dq P 5 = a0 at *
    clear b1 b2 b3 b4 hV2 hc
    omega
  have hl4 : 65536 * (dq P 0 + dq P 1) + 256 * ((dq P 2 + dq P 3) + (dq P 0 + dq P 1)) + ((dq P 4 + dq P 5) + (dq P 2 + dq P 3)) < 2 ^ 24 := by
    generalize dq P 0 + dq P 1 = a2 at *
    generalize dq P 2 + dq P 3 = a1 at *
    generalize dq P 4 + dq P 5 = a0 at *
    clear b1 b2 b3 b4 hV2 hc
    omega
  have b5 := bits_4 k0 k1 k2
  have b6 := bits_5 k0 k1 k2
  have hc2 : (dq P 4 + dq P 5) + (dq P 2 + dq P 3) + (dq P 0 + dq P 1) = cnt P 24 := by
    rw [hc]
    clear b1 b2 b3 b4 b5 b6 hV2 hc
    omega
  have t1 := bits_t1 hlt b1 hle
  rw [hd] at t1
  have t5 := bits_t5 hl4 b6
  rw [hc2] at t5
  exact bits_run t1 (bits_t2 hVlt b2) (bits_t3 hV2lt b4) (bits_t4 hl3 b5) t5
