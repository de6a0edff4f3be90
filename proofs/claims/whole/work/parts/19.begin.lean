/-! THE BEGIN, and all calls -/
def N0 : Nx := fun g _ => if g = 10 then 1 else 0
theorem fill_eq : ∀ n i (σ : Mx) f j, fillM σ i n f j = if f = 0 ∧ 9 + i ≤ j ∧ j < 9 + i + n then -1 else σ f j
  | 0, i, σ, f, j => by
    rw [fillM, if_neg (by omega)]
  | n + 1, i, σ, f, j => by
    rw [fillM, fill_eq n (i + 1) _ f j]
    by_cases h1 : f = 0 ∧ 9 + (i + 1) ≤ j ∧ j < 9 + (i + 1) + n
    · rw [if_pos h1, if_pos (by omega)]
    · rw [if_neg h1]
      unfold st
      by_cases h2 : f = 0 ∧ j = 9 + i
      · rw [if_pos h2, if_pos (by omega)]
      · rw [if_neg h2, if_neg (by omega)]
theorem mo_eq (f j : Nat) : σIMo f j = if f = 0 ∧ 9 ≤ j ∧ j < 19 then -1 else if f = 0 ∧ j = 2 then 1 else 0 := by
  unfold σIMo
  rw [fill_eq]
  rfl
theorem mo_f {f j : Nat} (h : f ≠ 0) : σIMo f j = 0 := by
  rw [mo_eq, if_neg (fun y => h y.1), if_neg (fun y => h y.1)]
theorem mo_0 {j : Nat} (h1 : j ≠ 2) (h2 : ¬ (9 ≤ j ∧ j < 19)) : σIMo 0 j = 0 := by
  rw [mo_eq, if_neg (fun y => h2 y.2), if_neg (fun y => h1 y.2)]
theorem s0_f {k f j : Nat} (h : 3 ≤ k) : S0 k f j = 0 := by
  unfold S0
  rw [if_neg (by omega)]
theorem inv0 : Inv S0 σIMo := by
  refine ⟨N0, ⟨by decide, by decide, by decide, fun p hp => absurd hp (by show ¬ p < 0; omega), fun p hp => absurd hp (by show ¬ p < 0; omega), fun i _ => ⟨0, 0, by decide, by decide, rfl⟩, fun i _ => Nat.le_refl 0⟩, ?_, ?_, ?_, ?_, ?_, ?_⟩
  · refine ⟨rfl, rfl, rfl, fun p hp => absurd hp (by show ¬ p < 0; omega), fun i _ => rfl, fun i hi => ?_, rfl⟩
    show (if 6 = 6 ∧ 0 ≤ i ∧ i < 0 + 10 then (-1 : Int32) else _) = _
    rw [if_pos ⟨rfl, Nat.zero_le i, by omega⟩]
    rfl
  · refine ⟨mo_0 (by decide) (by decide), mo_0 (by decide) (by decide), ?_, fun i hi => mo_0 (by omega) (by omega), fun i hi => ?_, fun p hp => absurd hp (by show ¬ p < 0; omega), fun p hp => absurd hp (by show ¬ p < 0; omega)⟩
    · rw [mo_eq, if_neg (by decide), if_pos ⟨rfl, rfl⟩]
      rfl
    · rw [mo_eq, if_pos (by omega)]
      rfl
  · exact Or.inl ⟨s0_f (by decide), mo_f (by decide)⟩
  · refine ⟨fun i _ => ?_, ?_⟩
    · rw [mo_f (by decide), s0_f (by decide)]
    · unfold sm7
      rw [mo_f (by decide), s0_f (by decide), s0_f (by decide), s0_f (by decide), s0_f (by decide), s0_f (by decide), s0_f (by decide), s0_f (by decide)]
      rfl
  · exact ⟨0, by decide, s0_f (by decide), mo_f (by decide), fun j hj => absurd hj (by omega)⟩
  · intro j _
    refine ⟨0, 0, Or.inl rfl, by decide, s0_f (by omega), mo_f (by decide), s0_f (by omega), mo_f (by decide), fun k _ => ?_⟩
    rw [mo_f (by decide), s0_f (by omega)]
theorem lok : LOK Inv := ⟨ok0, ok1, ok2, ok3, ok4, ok5, ok6, ok7, ok8, ok9, ok10, ok11, ok12, ok13, ok14, ok15, ok16, ok17, ok18, ok19, ok20, ok21, ok22, ok23, ok24, ok25, ok26, ok27, ok28, ok29, ok30, ok31, ok32, ok33, ok34, ok35, ok36, ok37, ok38, ok39, ok40, ok41⟩
