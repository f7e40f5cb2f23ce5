/-! ===== LEVEL 2: the law's loop ===== -/
theorem nI_le4 {k L : Nat} (hk : k ≤ 4096) (hL : L ≤ 2048) : (nI k ≤ Int32.ofNat L - 4) = (k + 4 ≤ L) := by
  refine propext ?_
  rw [Int32.le_iff_toInt_le, show Int32.ofNat L - 4 = nI L - nI 4 from rfl, Int32.toInt_sub, show (nI k).toInt = (k : Int) from Int32.toInt_ofNat_of_lt (by omega), show (nI L).toInt = (L : Int) from Int32.toInt_ofNat_of_lt (by omega), show (nI 4).toInt = 4 from rfl, Int.bmod_eq_of_le (by omega) (by omega)]
  omega
section LOOP
variable {Sh : Sp} {M : Mm} {B c n L : Nat} {xs : Nat → Int32}
theorem scr_nI {ρ : Type} {k : Nat} {K : Int32 → Option ρ} (hk : k < L) (hL : L ≤ 2048) : scr xs L (nI k) K = K (xs k) := by
  unfold scr
  rw [chk_pos (vp_in_nI hk (by omega)), nI_clamp (by omega)]
theorem body_step (h : ST Sh M B c) (hn : 20000 < n) (hc : c < 1000) (hO : Sh (B + 840) = some (.inr (2, 1))) (hL : L ≤ 2048) {j : Nat} (hj : 4 * j + 4 ≤ L) : GB Sh B (c + 1) (nI (4 * j)) (fL_body n Sh xs L B (B + 833) (B + 840) (nI (4 * j)) M) := by
  obtain ⟨z, rs, buf, hC, hM, hI⟩ := h
  have s1 : ∀ K : Int32 → Option (Mm ⊕ Int32), scr xs L (nI (4 * j) + 1) K = K (xs (4 * j + 1)) := fun K => by rw [show nI (4 * j) + 1 = nI (4 * j + 1) from nI_addm _ 1]; exact scr_nI (by omega) hL
  have s2 : ∀ K : Int32 → Option (Mm ⊕ Int32), scr xs L (nI (4 * j) + 2) K = K (xs (4 * j + 2)) := fun K => by rw [show nI (4 * j) + 2 = nI (4 * j + 2) from nI_addm _ 2]; exact scr_nI (by omega) hL
  have s3 : ∀ K : Int32 → Option (Mm ⊕ Int32), scr xs L (nI (4 * j) + 3) K = K (xs (4 * j + 3)) := fun K => by rw [show nI (4 * j) + 3 = nI (4 * j + 3) from nI_addm _ 3]; exact scr_nI (by omega) hL
  unfold fL_body
  rw [if_pos (by rw [nI_le4 (by omega) hL]; exact hj), scr_nI (by omega) hL]
  refine GB.ite (st_c0 hC hM hI hn hc hO s1 s2 s3).cont ?_
  refine GB.ite (st_c1 hC hM hI hn hc hO s1 s2 s3).cont ?_
  refine GB.ite (st_c2 hC hM hI hn hc hO s1 s2 s3).cont ?_
  refine GB.ite (st_c3 hC hM hI hn hc hO s1 s2 s3).cont ?_
  refine GB.ite (st_c4 hC hM hI hn hc hO s1 s2 s3).cont ?_
  refine GB.ite (st_c5 hC hM hI hn hc hO s1 s2 s3).cont ?_
  refine GB.ite (st_c6 hC hM hI hn hc hO s1 s2 s3).cont ?_
  refine GB.ite (st_c7 hC hM hI hn hc hO s1 s2 s3).cont ?_
  refine GB.ite (st_c8 hC hM hI hn hc hO s1 s2 s3).cont ?_
  refine GB.ite (st_c9 hC hM hI hn hc hO s1 s2 s3).cont ?_
  refine GB.ite (st_c10 hC hM hI hn hc hO s1 s2 s3).cont ?_
  refine GB.ite (st_c11 hC hM hI hn hc hO s1 s2 s3).cont ?_
  refine GB.ite (st_c12 hC hM hI hn hc hO s1 s2 s3).cont ?_
  refine GB.ite (st_c13 hC hM hI hn hc hO s1 s2 s3).cont ?_
  refine GB.ite (st_c14 hC hM hI hn hc hO s1 s2 s3).cont ?_
  refine GB.ite (st_c15 hC hM hI hn hc hO s1 s2 s3).cont ?_
  refine GB.ite (st_c16 hC hM hI hn hc hO s1 s2 s3).cont ?_
  refine GB.ite (st_c17 hC hM hI hn hc hO s1 s2 s3).cont ?_
  refine GB.ite (st_c18 hC hM hI hn hc hO s1 s2 s3).cont ?_
  refine GB.ite (st_c19 hC hM hI hn hc hO s1 s2 s3).cont ?_
  refine GB.ite (st_c20 hC hM hI hn hc hO s1 s2 s3).cont ?_
  refine GB.ite (st_c21 hC hM hI hn hc hO s1 s2 s3).cont ?_
  refine GB.ite (st_c22 hC hM hI hn hc hO s1 s2 s3).cont ?_
  refine GB.ite (st_c23 hC hM hI hn hc hO s1 s2 s3).cont ?_
  refine GB.ite (st_c24 hC hM hI hn hc hO s1 s2 s3).cont ?_
  refine GB.ite (st_c25 hC hM hI hn hc hO s1 s2 s3).cont ?_
  refine GB.ite (st_c26 hC hM hI hn hc hO s1 s2 s3).cont ?_
  refine GB.ite (st_c27 hC hM hI hn hc hO s1 s2 s3).cont ?_
  refine GB.ite (st_c28 hC hM hI hn hc hO s1 s2 s3).cont ?_
  refine GB.ite (st_c29 hC hM hI hn hc hO s1 s2 s3).cont ?_
  refine GB.ite (st_c30 hC hM hI hn hc hO s1 s2 s3).cont ?_
  refine GB.ite (st_c31 hC hM hI hn hc hO s1 s2 s3).cont ?_
  refine GB.ite (st_c32 hC hM hI hn hc hO s1 s2 s3).cont ?_
  refine GB.ite (st_c33 hC hM hI hn hc hO s1 s2 s3).cont ?_
  refine GB.ite (st_c34 hC hM hI hn hc hO s1 s2 s3).cont ?_
  refine GB.ite (st_c35 hC hM hI hn hc hO s1 s2 s3).cont ?_
  refine GB.ite (st_c36 hC hM hI hn hc hO s1 s2 s3).cont ?_
  exact ⟨M, rfl, z, rs, buf, hC, hM, hI.up⟩
theorem loop_all (h : ST Sh M B 0) (hn : 20000 < n) (hO : Sh (B + 840) = some (.inr (2, 1))) (hL : L ≤ 2048) : fL_loop n Sh xs L B (B + 833) (B + 840) 0 M = some 1 := by
  unfold fL_loop
  obtain ⟨r, er, rfl⟩ := iter_inv (f := fun s : Int32 × Mm => fL_body n Sh xs L B (B + 833) (B + 840) s.1 s.2) (L / 4) (fun j s => s.1 = nI (4 * j) ∧ ST Sh s.2 B j) (fun r => r = 1) (fun j s hj hs => by
    obtain ⟨v, X⟩ := s
    obtain ⟨rfl, hs⟩ := hs
    dsimp only at hs ⊢
    by_cases h4 : 4 * j + 4 ≤ L
    · obtain ⟨M', e, h'⟩ := body_step (n := n) (xs := xs) hs hn (by omega) hO hL h4
      exact Or.inl ⟨by omega, _, e, nI_addm _ 4, h'⟩
    · refine Or.inr ⟨1, ?_, rfl⟩
      unfold fL_body
      rw [if_neg (by rw [nI_le4 (by omega) hL]; exact h4)]) (show L / 4 < 513 by omega) (s := (0, M)) ⟨rfl, h⟩
  exact er
end LOOP
