/-! ===== CORE 9: the law's own steps ===== -/
noncomputable def scr {ρ : Type} (xs : Nat → Int32) (L : Nat) (i : Int32) (K : Int32 → Option ρ) : Option ρ := chk (vp_in i L) (K (xs i.toNatClampNeg))
def cont (i : Int32) (q : Option (Mm ⊕ Int32)) : Option ((Int32 × Mm) ⊕ Int32) := q.bind fun z => match z with
  | .inl M => some (.inl (i + 4, M))
  | .inr r => some (.inr r)
theorem cont_some {i : Int32} {q : Option (Mm ⊕ Int32)} {r : (Int32 × Mm) ⊕ Int32} (h : cont i q = some r) : ∃ z, q = some z ∧ (∀ M, z = .inl M → r = .inl (i + 4, M)) ∧ ∀ v, z = .inr v → r = .inr v := by
  obtain ⟨z, hz, h⟩ := bS h
  refine ⟨z, hz, fun M q => ?_, fun v q => ?_⟩
  · subst q; exact (Option.some.inj h).symm
  · subst q; exact (Option.some.inj h).symm
theorem lg_cmp_eq0 {x y : Int64} : lg_cmp x y = 0 ↔ x = y := by
  unfold lg_cmp
  by_cases h : x > y
  · rw [if_pos h]
    refine ⟨fun q => absurd q (by decide), fun q => ?_⟩
    subst q
    exact absurd h Int64.lt_irrefl
  · rw [if_neg h]
    by_cases h2 : x = y
    · rw [if_pos h2]
      exact ⟨fun _ => h2, fun _ => rfl⟩
    · rw [if_neg h2]
      exact ⟨fun q => absurd q (by decide), fun q => absurd q h2⟩
section CORE9
variable {p : Program} {l : Launch} {e : Env} {R : Room} {s : State} {m : MethodId} {args : Array Value} {below : List Frame} {meth : Method} {c : Code} {H : Heap} {locs : List Loc} {cells slots : Nat} {Q : State → Prop}
variable {cc : ByteArray} {nL pc : Nat} {ls : Array Slot} {rest : List Value} {own : String} {G : Gt} {ρ : Type} {r0 : ρ} {b L : Nat} {xs : Nat → Int32}
theorem r_scr (C : CallFix p m c cc nL s args GW own) (hXs : va_X b L xs s s.heap) (hbl : b < s.heap.size) (hbA : ¬ AA G b) (hS : va_S (AA G) s.heap H locs) {i : Int32} (hdg : decode cc pc = .ok (.iaload, 1))
    {K : Int32 → Option ρ} (h : scr xs L i K = some r0) (kk : ∀ v, K v = some r0 → W p l e R s m args below meth c H locs cells slots Q (F0 m (pc + 1) ls (.int v :: rest))) : W p l e R s m args below meth c H locs cells slots Q (F0 m pc ls (.int i :: .ref b :: rest)) := by
  obtain ⟨hin, h⟩ := chk_some h
  exact va_sld C.1 C.2.1 hXs hbl hbA hS hin hdg (kk _ h)
theorem b_lcmp (C : CallFix p m c cc nL s args GW own) {x y : Int64} {off : Int} {tgt : Nat} (hd0 : decode cc pc = .ok (.lcmp, 1)) (hdg : decode cc (pc + 1) = .ok (.ifCond .eq off, 3)) (ht : ((pc + 1 : Nat) : Int) + off = (tgt : Int)) {X Y : Option ρ} (h : (if x = y then X else Y) = some r0)
    (k1 : X = some r0 → W p l e R s m args below meth c H locs cells slots Q (F0 m tgt ls rest)) (k2 : Y = some r0 → W p l e R s m args below meth c H locs cells slots Q (F0 m (pc + 4) ls rest)) : W p l e R s m args below meth c H locs cells slots Q (F0 m pc ls (.long y :: .long x :: rest)) := by
  refine W.lcmp C.1 C.2.1 hd0 ?_
  exact lv_if_eq C.1 C.2.1 hdg ht (fun q => k1 (by rw [if_pos (lg_cmp_eq0.mp q)] at h; exact h)) (fun q => k2 (by rw [if_neg (fun z => q (lg_cmp_eq0.mpr z))] at h; exact h))
end CORE9
