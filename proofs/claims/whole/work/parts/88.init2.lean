/-! ===== LEVEL 2: a new tree ===== -/
def S4 (S : Sp) (t : Nat) : Sp := upS (upS (upS (upS (upS (upS (upS (upS (upS (upS (upS S t (.inl 4)) (t + 1) (.inr (0, 24))) (t + 2) (.inr (0, 24))) (t + 3) (.inr (0, 24))) (t + 4) (.inr (0, 576))) (t + 5) (.inr (0, 24))) (t + 6) (.inr (0, 120))) (t + 7) (.inr (4, 24))) (t + 8) (.inr (4, 24))) (t + 9) (.inr (0, 24))) (t + 10) (.inr (0, 24))
def M4a (M : Mm) (t : Nat) : Mm := uR (zM (uR (zM (uR (zM (uR (zM (uR (zM (uR (zM (uR (zM (uR (zM (uR (zM (zM M t) (t + 1)) t 0 (some (t + 1))) (t + 2)) t 1 (some (t + 2))) (t + 3)) t 2 (some (t + 3))) (t + 4)) t 3 (some (t + 4))) (t + 5)) t 4 (some (t + 5))) (t + 6)) t 5 (some (t + 6))) (t + 7)) t 6 (some (t + 7))) (t + 8)) t 7 (some (t + 8))) (t + 9)) t 8 (some (t + 9))
def M4b (M : Mm) (t : Nat) : Mm := uR (zM (uI (M4a M t) t 9 0) (t + 10)) t 10 (some (t + 10))
section NEWT
variable {P P' : Nat → Prop} {S S1 S2 : Sp} {M M1 M2 M' : Mm} {a b w cap nx n t : Nat} {l : List Int32}
theorem S4_t : S4 S t t = some (.inl 4) := by simp [S4, upS]
theorem S4_LT : LT0 (S4 S t) (M4b M t).2.1 t := by
  refine ⟨S4_t, ?_, ?_⟩
  · simp [M4b, M4a, uR_same, uR_row, zM_2o, uI_2]
  · simp [S4, upS]
theorem S4_gq : Gq (fun b => b < t) S M (S4 S t) (M4b M t) := by
  unfold S4 M4b M4a
  refine Gq.tr (S1 := upS (upS (upS (upS (upS (upS (upS (upS (upS (upS S t (.inl 4)) (t + 1) (.inr (0, 24))) (t + 2) (.inr (0, 24))) (t + 3) (.inr (0, 24))) (t + 4) (.inr (0, 576))) (t + 5) (.inr (0, 24))) (t + 6) (.inr (0, 120))) (t + 7) (.inr (4, 24))) (t + 8) (.inr (4, 24))) (t + 9) (.inr (0, 24))) ?_ (((Gq.uI (fun b hb => by omega)).tr (Gq.up (fun b hb => by omega))).tr (Gq.uR (fun b hb => by omega)))
  refine Gq.tr ?_ ((Gq.up (fun b hb => by omega)).tr (Gq.uR (fun b hb => by omega)))
  refine Gq.tr ?_ ((Gq.up (fun b hb => by omega)).tr (Gq.uR (fun b hb => by omega)))
  refine Gq.tr ?_ ((Gq.up (fun b hb => by omega)).tr (Gq.uR (fun b hb => by omega)))
  refine Gq.tr ?_ ((Gq.up (fun b hb => by omega)).tr (Gq.uR (fun b hb => by omega)))
  refine Gq.tr ?_ ((Gq.up (fun b hb => by omega)).tr (Gq.uR (fun b hb => by omega)))
  refine Gq.tr ?_ ((Gq.up (fun b hb => by omega)).tr (Gq.uR (fun b hb => by omega)))
  refine Gq.tr ?_ ((Gq.up (fun b hb => by omega)).tr (Gq.uR (fun b hb => by omega)))
  refine Gq.tr ?_ ((Gq.up (fun b hb => by omega)).tr (Gq.uR (fun b hb => by omega)))
  exact (Gq.up (fun b hb => by omega)).tr ((Gq.up (fun b hb => by omega)).tr (Gq.uR (fun b hb => by omega)))
theorem M4_9 : (M4b M t).1 t 9 = 0 := by
  unfold M4b
  rw [uR_1, zM_1o (by omega), uI_same]
theorem S4_init : fX4_init n (upS S t (.inl 4)) (zM M t) (t + 1) t = (nO (S4 S t) (M4b M t) (t + 11) 5 fun S42 M43 n44 => (fX5_init n S42 M43 n44 (t + 11) 0).bind fun r45 => pF r45.1 r45.2.1 t 4 11 (t + 11) fun M46 => iter 25 (fun s => fX4_init_106b n t s.1 s.2.1 s.2.2.1 s.2.2.2) (0, r45.1, M46, r45.2.2)) := by
  unfold fX4_init
  rw [show (24 : Int32) = nI 24 from rfl, show (576 : Int32) = nI 576 from rfl, show (120 : Int32) = nI 120 from rfl]
  rw [nAF (by simp [upS, Nat.add_assoc]) (by omega) (by decide), nAF (by simp [upS, Nat.add_assoc]) (by omega) (by decide), nAF (by simp [upS, Nat.add_assoc]) (by omega) (by decide), nAF (by simp [upS, Nat.add_assoc]) (by omega) (by decide), nAF (by simp [upS, Nat.add_assoc]) (by omega) (by decide), nAF (by simp [upS, Nat.add_assoc]) (by omega) (by decide), nAF (by simp [upS, Nat.add_assoc]) (by omega) (by decide), nAF (by simp [upS, Nat.add_assoc]) (by omega) (by decide), nAF (by simp [upS, Nat.add_assoc]) (by omega) (by decide), pI_of (by simp [upS, Nat.add_assoc]), nAF (by simp [upS, Nat.add_assoc]) (by omega) (by decide)]
  rfl
end NEWT
