section Swaps
variable {M : Nx} {S S' : Nat → Mx} {σ μ μ' : Mx}
theorem exN_inv {a b : Nat} : exN (exN M a b) a b = M := by
  funext g i
  by_cases h : g = 4
  · subst h
    rw [exN_row, exN_row, exN_row, exN_row]
    by_cases e : i = b
    · subst e
      rw [if_pos rfl]
      by_cases e2 : a = i
      · rw [if_pos e2, e2]
      · rw [if_neg e2, if_pos rfl]
    · rw [if_neg e, if_neg e, if_pos rfl]
      by_cases e2 : i = a
      · rw [if_pos e2, e2]
      · rw [if_neg e2, if_neg e2]
  · rw [exN_ne h, exN_ne h]
theorem exP_inv {a b : Nat} : exP (exP M a b) a b = M := by
  have e8 : exP M a b 8 = M 8 := exP_ne (by decide)
  by_cases h : a < M 8 0 ∧ b < M 8 0
  · have e : exP M a b = exN M a b := by unfold exP; rw [if_pos h]
    rw [e]
    unfold exP
    rw [exN_ne (g := 8) (by decide), if_pos h, exN_inv]
  · have e : exP M a b = M := by unfold exP; rw [if_neg h]
    rw [e, e]
theorem c_sumEx (hw : Wf M) (hc : Rc M (S 0)) {a b : Nat} (ha : a < 2 ^ 31) (hb : b < 2 ^ 31) {Q : Int32 → (Nat → Mx) → Prop} (h : ∀ S', T0 S S' → Rc M (S' 0) → Q (nI (sumN (exP M a b))) S') : pX4_sumExchanged S (nI a) (nI b) Q := by
  unfold pX4_sumExchanged
  refine c_ex hw hc rfl rfl ha hb (fun τ hτ => ?_)
  have hw' := Wf_exP hw (a := a) (b := b)
  rw [va_up_self]
  refine c_sum hw' hτ (c_ex hw' hτ rfl rfl ha hb (fun υ hυ => h _ T0.rfl.up.up ?_))
  rw [exP_inv] at hυ
  rw [va_up_self]
  exact hυ
/-- the least sum, whether there is one, and its two places -/
abbrev Lx : Type := Nat × Nat × Nat × Nat
def lxS (M : Nx) (X : Lx) (a b : Nat) : Lx := if sumN (exP M a b) < X.1 then (sumN (exP M a b), 1, a, b) else X
def lxB (M : Nx) (a : Nat) : Nat → Nat → Lx → Lx
  | _, 0, X => X
  | b, k + 1, X => lxB M a (b + 1) k (lxS M X a b)
def lxA (M : Nx) : Nat → Nat → Lx → Lx
  | _, 0, X => X
  | a, k + 1, X => lxA M (a + 1) k (lxB M a (a + 1) (M 8 0 - (a + 1)) X)
def lxN (M : Nx) : Lx := lxA M 0 (M 8 0) (sumN M, 0, 0, 0)
def lxO (M : Nx) (X : Lx) : Prop := X.1 ≤ sumN M ∧ (X.2.1 = 0 ∨ (X.2.1 = 1 ∧ X.2.2.1 < M 8 0 ∧ X.2.2.2 < M 8 0 ∧ sumN (exN M X.2.2.1 X.2.2.2) < sumN M))
theorem lxS_o {X : Lx} (h : lxO M X) {a b : Nat} (ha : a < M 8 0) (hb : b < M 8 0) : lxO M (lxS M X a b) := by
  unfold lxS
  by_cases c : sumN (exP M a b) < X.1
  · rw [if_pos c]
    have h1 := h.1
    refine ⟨by omega, Or.inr ⟨rfl, ha, hb, ?_⟩⟩
    rw [exP_y ha hb] at c
    show sumN (exN M a b) < sumN M
    omega
  · rw [if_neg c]
    exact h
theorem lxB_o {a : Nat} (ha : a < M 8 0) : ∀ k b X, b + k ≤ M 8 0 → lxO M X → lxO M (lxB M a b k X)
  | 0, _, _, _, h => h
  | k + 1, b, X, hb, h => lxB_o ha k (b + 1) _ (by omega) (lxS_o h ha (by omega))
theorem lxA_o : ∀ k a X, a + k ≤ M 8 0 → lxO M X → lxO M (lxA M a k X)
  | 0, _, _, _, h => h
  | k + 1, a, X, ha, h => lxA_o k (a + 1) _ (by omega) (lxB_o (by omega) _ _ _ (by omega) h)
theorem lxN_o : lxO M (lxN M) := lxA_o _ _ _ (by omega) ⟨Nat.le_refl _, Or.inl rfl⟩
def lxC (c : Nat) (X : Lx) : Int32 := if X.2.1 = 0 then -1 else nI (c * X.2.2.1 + X.2.2.2)
theorem c_lex (hw : Wf M) (hc : Rc M (S 0)) {Q : Int32 → (Nat → Mx) → Prop} (h : ∀ S', T0 S S' → Rc M (S' 0) → Q (lxC 10 (lxN M)) S') : pX4_leastExchange S Q := by
  have h8 := hw.1
  have hs := sumN_lt hw
  have inner : ∀ (ih12 : Int32 → Int32 → Int32 → (Nat → Mx) → Prop) (a : Nat), a < M 8 0 → ∀ k b X S', b + k = M 8 0 → a < b → lxO M X → T0 S S' → Rc M (S' 0) → (∀ S', T0 S S' → Rc M (S' 0) → ih12 (nI (lxB M a b k X).1) (lxC 10 (lxB M a b k X)) (nI (a + 1)) S') → pX4_leastExchange_28 ih12 Q (k + 1) (nI X.1) (lxC 10 X) (nI a) (nI b) S' := by
    intro ih12 a ha k
    induction k with
    | zero =>
      intro b X S' hb hab hX hT hc' hq
      show pX4_leastExchange_28s ih12 _ Q _ _ _ _ _
      unfold pX4_leastExchange_28s
      rw [hc'.1, nI_1]
      exact b_le (by omega) (by omega) (fun _ => hq S' hT hc') (fun z => by omega)
    | succ k ih =>
      intro b X S' hb hab hX hT hc' hq
      show pX4_leastExchange_28s ih12 (pX4_leastExchange_28 ih12 Q (k + 1)) Q _ _ _ _ _
      unfold pX4_leastExchange_28s pX4_leastExchange_66
      rw [hc'.1]
      have hX1 := hX.1
      have hse := sumN_lt (Wf_exP hw (a := a) (b := b))
      have hn := ih (b + 1) (lxS M X a b)
      refine b_le (by omega) (by omega) (fun z => by omega) (fun _ => c_sumEx hw hc' (by omega) (by omega) (fun S2 hT2 hc2 => ?_))
      have hT' : T0 S S2 := fun j hj => (hT2 j hj).trans (hT j hj)
      have hn' := hn S2 (by omega) (by omega) (lxS_o hX ha (by omega)) hT' hc2 hq
      rw [nI_1]
      refine b_le (by omega) (by omega) (fun z => ?_) (fun z => ?_)
      · have e : lxS M X a b = X := by
          unfold lxS
          rw [if_neg (by omega)]
        rw [e] at hn'
        exact hn'
      · have e : lxS M X a b = (sumN (exP M a b), 1, a, b) := by
          unfold lxS
          rw [if_pos z]
        rw [e] at hn'
        intro v65 e65
        rw [ten] at e65
        subst e65
        exact hn'
  have outer : ∀ k a X S', a + k = M 8 0 → lxO M X → T0 S S' → Rc M (S' 0) → (∀ S', T0 S S' → Rc M (S' 0) → Q (lxC 10 (lxA M a k X)) S') → pX4_leastExchange_12 Q (k + 1) (nI X.1) (lxC 10 X) (nI a) S' := by
    intro k
    induction k with
    | zero =>
      intro a X S' ha hX hT hc' hq
      show pX4_leastExchange_12s _ Q _ _ _ _
      unfold pX4_leastExchange_12s
      rw [hc'.1]
      exact b_le (by omega) (by omega) (fun _ => hq S' hT hc') (fun z => by omega)
    | succ k ih =>
      intro a X S' ha hX hT hc' hq
      show pX4_leastExchange_12s (pX4_leastExchange_12 Q (k + 1)) Q _ _ _ _
      unfold pX4_leastExchange_12s
      rw [hc'.1]
      refine b_le (by omega) (by omega) (fun z => by omega) (fun _ => ?_)
      intro v26 e26
      rw [nI_1] at e26
      subst e26
      exact ⟨_, inner (pX4_leastExchange_12 Q (k + 1)) a (by omega) (M 8 0 - (a + 1)) (a + 1) X S' (by omega) (by omega) hX hT hc' (fun S2 hT2 hc2 => ih (a + 1) _ S2 (by omega) (lxB_o (by omega) _ _ _ (by omega) hX) hT2 hc2 hq)⟩
  unfold pX4_leastExchange
  exact c_sum hw hc ⟨_, outer (M 8 0) 0 (sumN M, 0, 0, 0) S (by omega) ⟨Nat.le_refl _, Or.inl rfl⟩ T0.rfl hc h⟩
theorem eig (a b : Nat) : (8 * nI a) + nI b = nI (8 * a + b) := by
  have e : (8 : Int32) * nI a = nI (8 * a) := pk_mul 8 a
  rw [e, nI_add]
theorem m_lex (hw : Wf M) (hm : Rm M (μ 0)) {Q : Int32 → Mx → Prop} (h : ∀ μ', Fr0 μ μ' → Rm M (μ' 0) → Q (lxC 8 (lxN M)) μ') : pX5_betterSwap μ Q := by
  have h8 := hw.1
  have hs := sumN_lt hw
  have hv1 : vp_in 1 67 := v_1 (by decide) (by decide)
  have inner : ∀ (ih12 : Int32 → Int32 → Int32 → Mx → Prop) (a : Nat), a < M 8 0 → ∀ k b X μ', b + k = M 8 0 → a < b → lxO M X → Fr0 μ μ' → Rm M (μ' 0) → (∀ μ', Fr0 μ μ' → Rm M (μ' 0) → ih12 (nI (lxB M a b k X).1) (lxC 8 (lxB M a b k X)) (nI (a + 1)) μ') → pX5_betterSwap_24 ih12 Q (k + 1) (nI X.1) (lxC 8 X) (nI a) (nI b) μ' := by
    intro ih12 a ha k
    induction k with
    | zero =>
      intro b X μ' hb hab hX hT hm' hq
      show pX5_betterSwap_24s ih12 _ Q _ _ _ _ _
      unfold pX5_betterSwap_24s
      rw [m_1, hm'.2.1, nI_1]
      exact ⟨hv1, b_le (by omega) (by omega) (fun _ => hq μ' hT hm') (fun z => by omega)⟩
    | succ k ih =>
      intro b X μ' hb hab hX hT hm' hq
      show pX5_betterSwap_24s ih12 (pX5_betterSwap_24 ih12 Q (k + 1)) Q _ _ _ _ _
      unfold pX5_betterSwap_24s pX5_betterSwap_72
      rw [m_1, hm'.2.1]
      have hX1 := hX.1
      have hb' : b < M 8 0 := by omega
      have hwe := Wf_ex hw ha hb'
      have hse := sumN_lt hwe
      have ee := exP_y ha hb'
      have hn := ih (b + 1) (lxS M X a b)
      refine ⟨hv1, b_le (by omega) (by omega) (fun z => by omega) (fun _ => m_ex hw hm' rfl rfl ha hb' (fun μ1 hm1 hf1 => m_sum hwe hm1 (m_ex hwe hm1 rfl rfl (by rw [exN_ne (by decide)]; exact ha) (by rw [exN_ne (by decide)]; exact hb') (fun μ2 hm2 hf2 => ?_))))⟩
      rw [exN_inv] at hm2
      have hn' := hn μ2 (by omega) (by omega) (lxS_o hX ha (by omega)) (Fr0.tr hT (Fr0.tr hf1 hf2)) hm2 hq
      rw [nI_1]
      refine b_le (by omega) (by omega) (fun z => ?_) (fun z => ?_)
      · have e : lxS M X a b = X := by
          unfold lxS
          rw [ee, if_neg (by omega)]
        rw [e] at hn'
        exact hn'
      · have e : lxS M X a b = (sumN (exN M a b), 1, a, b) := by
          unfold lxS
          rw [ee, if_pos z]
        rw [e] at hn'
        intro v68 e68
        rw [eig] at e68
        subst e68
        exact hn'
  have outer : ∀ k a X μ', a + k = M 8 0 → lxO M X → Fr0 μ μ' → Rm M (μ' 0) → (∀ μ', Fr0 μ μ' → Rm M (μ' 0) → Q (lxC 8 (lxA M a k X)) μ') → pX5_betterSwap_9 Q (k + 1) (nI X.1) (lxC 8 X) (nI a) μ' := by
    intro k
    induction k with
    | zero =>
      intro a X μ' ha hX hT hm' hq
      show pX5_betterSwap_9s _ Q _ _ _ _
      unfold pX5_betterSwap_9s
      rw [m_1, hm'.2.1]
      exact ⟨hv1, b_le (by omega) (by omega) (fun _ => hq μ' hT hm') (fun z => by omega)⟩
    | succ k ih =>
      intro a X μ' ha hX hT hm' hq
      show pX5_betterSwap_9s (pX5_betterSwap_9 Q (k + 1)) Q _ _ _ _
      unfold pX5_betterSwap_9s
      rw [m_1, hm'.2.1]
      refine ⟨hv1, b_le (by omega) (by omega) (fun z => by omega) (fun _ => ?_)⟩
      intro v22 e22
      rw [nI_1] at e22
      subst e22
      exact ⟨_, inner (pX5_betterSwap_9 Q (k + 1)) a (by omega) (M 8 0 - (a + 1)) (a + 1) X μ' (by omega) (by omega) hX hT hm' (fun S2 hT2 hc2 => ih (a + 1) _ S2 (by omega) (lxB_o (by omega) _ _ _ (by omega) hX) hT2 hc2 hq)⟩
  unfold pX5_betterSwap
  exact m_sum hw hm ⟨_, outer (M 8 0) 0 (sumN M, 0, 0, 0) μ (by omega) ⟨Nat.le_refl _, Or.inl rfl⟩ Fr0.rfl hm h⟩
def nxN (M : Nx) : Nx := if (lxN M).2.1 = 0 then M else exN M (lxN M).2.2.1 (lxN M).2.2.2
theorem lxN_y (h : (lxN M).2.1 ≠ 0) : (lxN M).2.2.1 < M 8 0 ∧ (lxN M).2.2.2 < M 8 0 ∧ sumN (exN M (lxN M).2.2.1 (lxN M).2.2.2) < sumN M := by
  rcases (lxN_o (M := M)).2 with e | ⟨_, h1, h2, h3⟩
  · exact absurd e h
  · exact ⟨h1, h2, h3⟩
theorem nxN_8 : nxN M 8 = M 8 := by
  unfold nxN
  split
  · rfl
  · exact exN_ne (by decide)
theorem Wf_nx (hw : Wf M) : Wf (nxN M) := by
  unfold nxN
  by_cases h : (lxN M).2.1 = 0
  · rw [if_pos h]; exact hw
  · rw [if_neg h]
    exact Wf_ex hw (lxN_y h).1 (lxN_y h).2.1
def sqN (M : Nx) : Nat → Nx
  | 0 => M
  | k + 1 => nxN (sqN M k)
theorem Wf_sq (hw : Wf M) : ∀ k, Wf (sqN M k)
  | 0 => hw
  | k + 1 => Wf_nx (Wf_sq hw k)
theorem sq_sum : ∀ k, (∀ i, i < k → (lxN (sqN M i)).2.1 ≠ 0) → sumN (sqN M k) + k ≤ sumN M
  | 0, _ => Nat.le_refl _
  | k + 1, h => by
    have ih := sq_sum k (fun i hi => h i (by omega))
    have hk := h k (by omega)
    have h3 := (lxN_y hk).2.2
    have e : sqN M (k + 1) = exN (sqN M k) (lxN (sqN M k)).2.2.1 (lxN (sqN M k)).2.2.2 := by
      rw [sqN, nxN, if_neg hk]
    rw [e]
    omega
theorem sq_end (hw : Wf M) : ∃ k, k ≤ 100 ∧ (lxN (sqN M k)).2.1 = 0 ∧ ∀ i, i < k → ¬ (lxN (sqN M i)).2.1 = 0 := by
  rcases firstOf (fun k => (lxN (sqN M k)).2.1 = 0) 100 with h | h
  · exact h
  · have h1 := sq_sum (M := M) 101 (fun i hi => h i (by omega))
    have h2 := sumN_lt hw
    omega
theorem lxC_n {c : Nat} {X : Lx} (h : X.2.1 = 0) : lxC c X = -1 := by
  unfold lxC
  rw [if_pos h]
theorem lxC_y {c : Nat} {X : Lx} (h : ¬ X.2.1 = 0) : lxC c X = nI (c * X.2.2.1 + X.2.2.2) := by
  unfold lxC
  rw [if_neg h]
theorem rem6 {a : Nat} (h : a < 2 ^ 31) : nI a - nI a / 6 * 6 = nI (a % 6) := remL 6 rfl h (by decide) (by decide)
theorem m_place {y : Nat} (e : μ 0 0 = nI y) (hy : y < 2 ^ 31) {Q : Int32 → Prop} (h : Q (nI (3 + y % 6))) : pX5_placeNow μ Q := by
  have e3 : (3 : Int32) + nI (y % 6) = nI (3 + y % 6) := nI_add 3 _
  unfold pX5_placeNow
  rw [m_0, e, rem6 hy, e3]
  exact ⟨v_0 (by decide) (by decide), h⟩
theorem rem8 {a : Nat} (h : a < 2 ^ 31) : nI a - nI a / 8 * 8 = nI (a % 8) := remL 8 rfl h (by decide) (by decide)
theorem ok18 : OK_18 Inv := by
  intro S μ hI
  obtain ⟨M, hw, hc, hm, ho⟩ := hI
  have h8 := hw.1
  obtain ⟨k, hk, hP, hN⟩ := sq_end hw
  have cj : ∀ {Q : Int32 → (Nat → Mx) → Prop}, (∀ S', T0 S S' → Rc (sqN M k) (S' 0) → Q (nI k) S') → pX4_settle S Q := by
    intro Q hq
    have key : ∀ d i S', i + d = k → T0 S S' → Rc (sqN M i) (S' 0) → pX4_settle_4 Q (d + 1) (nI i) (nI i) S' := by
      intro d
      induction d with
      | zero =>
        intro i S' hi hT hc'
        have ei : i = k := by omega
        subst ei
        show pX4_settle_4s _ Q _ _ _
        unfold pX4_settle_4s pX4_settle_46
        refine b_le (a := 1000000) (by decide) (by omega) (fun z => by omega) (fun _ => c_lex (Wf_sq hw i) hc' (fun S2 hT2 hc2 => ?_))
        rw [lxC_n hP]
        exact ⟨fun y => absurd y (by decide), fun _ => hq S2 (fun j hj => (hT2 j hj).trans (hT j hj)) hc2⟩
      | succ d ih =>
        intro i S' hi hT hc'
        have hn := hN i (by omega)
        have hwi := Wf_sq hw i
        have hi8 := hwi.1
        obtain ⟨y1, y2, y3⟩ := lxN_y hn
        show pX4_settle_4s (pX4_settle_4 Q (d + 1)) Q _ _ _
        unfold pX4_settle_4s
        refine b_le (a := 1000000) (by decide) (by omega) (fun z => by omega) (fun _ => c_lex hwi hc' (fun S2 hT2 hc2 => ?_))
        rw [lxC_y hn, nI_1]
        refine ⟨fun _ => ?_, fun y => absurd (nI_pos' (by omega)) y⟩
        have ed : nI (10 * (lxN (sqN M i)).2.2.1 + (lxN (sqN M i)).2.2.2) / 10 = nI (lxN (sqN M i)).2.2.1 := by
          have := pk_div (a := 10 * (lxN (sqN M i)).2.2.1 + (lxN (sqN M i)).2.2.2) (d := 10) (by omega) (by decide) (by decide)
          rw [show (10 * (lxN (sqN M i)).2.2.1 + (lxN (sqN M i)).2.2.2) / 10 = (lxN (sqN M i)).2.2.1 by omega] at this
          exact this
        have er : nI (10 * (lxN (sqN M i)).2.2.1 + (lxN (sqN M i)).2.2.2) - nI (10 * (lxN (sqN M i)).2.2.1 + (lxN (sqN M i)).2.2.2) / 10 * 10 = nI (lxN (sqN M i)).2.2.2 := by
          rw [rem10 (by omega), show (10 * (lxN (sqN M i)).2.2.1 + (lxN (sqN M i)).2.2.2) % 10 = (lxN (sqN M i)).2.2.2 by omega]
        refine c_ex hwi hc2 ed er (by omega) (by omega) (fun τ hτ => ih (i + 1) _ (by omega) ?_ ?_)
        · exact fun j hj => (va_up_ne _ _ hj).trans ((hT2 j hj).trans (hT j hj))
        · rw [va_up_self, sqN, nxN, if_neg hn]
          rw [exP_y y1 y2] at hτ
          exact hτ
    exact ⟨_, key k 0 S (by omega) T0.rfl hc⟩
  have mj : ∀ {Q : Int32 → Mx → Prop}, (∀ μ', Fr0 μ μ' → Rm (sqN M k) (μ' 0) → Q (nI k) μ') → pX5_settle μ Q := by
    intro Q hq
    have key : ∀ d i μ', i + d = k → Fr0 μ μ' → Rm (sqN M i) (μ' 0) → pX5_settle_7 Q (d + 1) (nI i) (lxC 8 (lxN (sqN M i))) μ' := by
      intro d
      induction d with
      | zero =>
        intro i μ' hi hT hm'
        have ei : i = k := by omega
        subst ei
        show pX5_settle_7s _ Q _ _ _
        unfold pX5_settle_7s
        rw [lxC_n hP]
        exact ⟨fun _ => hq μ' hT hm', fun y => absurd (by decide) y⟩
      | succ d ih =>
        intro i μ' hi hT hm'
        have hn := hN i (by omega)
        have hwi := Wf_sq hw i
        have hi8 := hwi.1
        obtain ⟨y1, y2, y3⟩ := lxN_y hn
        show pX5_settle_7s (pX5_settle_7 Q (d + 1)) Q _ _ _
        unfold pX5_settle_7s
        rw [lxC_y hn, nI_1]
        refine ⟨fun y => absurd y (nI_pos (by omega)), fun _ => ?_⟩
        have ed : nI (8 * (lxN (sqN M i)).2.2.1 + (lxN (sqN M i)).2.2.2) / 8 = nI (lxN (sqN M i)).2.2.1 := by
          have := pk_div (a := 8 * (lxN (sqN M i)).2.2.1 + (lxN (sqN M i)).2.2.2) (d := 8) (by omega) (by decide) (by decide)
          rw [show (8 * (lxN (sqN M i)).2.2.1 + (lxN (sqN M i)).2.2.2) / 8 = (lxN (sqN M i)).2.2.1 by omega] at this
          exact this
        have er : nI (8 * (lxN (sqN M i)).2.2.1 + (lxN (sqN M i)).2.2.2) - nI (8 * (lxN (sqN M i)).2.2.1 + (lxN (sqN M i)).2.2.2) / 8 * 8 = nI (lxN (sqN M i)).2.2.2 := by
          rw [rem8 (by omega), show (8 * (lxN (sqN M i)).2.2.1 + (lxN (sqN M i)).2.2.2) % 8 = (lxN (sqN M i)).2.2.2 by omega]
        have e1 : exN (sqN M i) (lxN (sqN M i)).2.2.1 (lxN (sqN M i)).2.2.2 = sqN M (i + 1) := by
          rw [sqN, nxN, if_neg hn]
        refine m_ex hwi hm' ed er y1 y2 (fun μ1 hm1 hf1 => ?_)
        rw [e1] at hm1
        exact m_lex (Wf_sq hw (i + 1)) hm1 (fun μ2 hf2 hm2 => ih (i + 1) μ2 (by omega) (Fr0.tr hT (Fr0.tr hf1 hf2)) hm2)
    unfold pX5_settle
    exact m_lex hw hm (fun μ2 hf2 hm2 => ⟨_, key k 0 μ2 (by omega) hf2 hm2⟩)
  exact cj (fun S' hT hc' => mj (fun μ' hf hm' => ⟨rfl, ho.inv (Wf_sq hw k) hc' hm' hT.fs hf.fm⟩))
def tp1 (M : Nx) : Nx := sn M 10 0 (zN M)
def tp2 (M : Nx) : Nx := sn (tp1 M) 10 0 (zN (tp1 M))
def tp3 (M : Nx) : Nx := sn (tp2 M) 5 (M 9 0 % 6) (10 * (dwN M % 8) + dwN (tp1 M) % 8)
def tpN (M : Nx) : Nat → Nx
  | 0 => M
  | k + 1 => yeN (tp3 (tpN M k))
theorem Wf_tp3 (hw : Wf M) : Wf (tp3 M) := Wf_s5 (Wf_s10 (Wf_s10 hw zN_lt) zN_lt) ⟨_, _, Nat.mod_lt _ (by decide), Nat.mod_lt _ (by decide), rfl⟩
theorem Wf_tp (hw : Wf M) : ∀ k, Wf (tpN M k)
  | 0 => hw
  | k + 1 => Wf_ye (Wf_tp3 (Wf_tp hw k))
theorem dw_lt : dwN M < 2 ^ 24 := by
  have := zN_lt (M := M)
  unfold dwN
  omega
theorem c_tip (hw : Wf M) (hc : Rc M (S 0)) {n : Nat} (hn : n ≤ 20) {Q : Int32 → (Nat → Mx) → Prop} (h : ∀ S', T0 S S' → Rc (tpN M n) (S' 0) → Q (nI (sumN (tpN M n))) S') : ∃ m, pX4_tip_39 Q m (nI n) 0 S := by
  have key : ∀ d i S', i + d = n → T0 S S' → Rc (tpN M i) (S' 0) → pX4_tip_39 Q (d + 1) (nI n) (nI i) S' := by
    intro d
    induction d with
    | zero =>
      intro i S' hi hT hc'
      have ei : i = n := by omega
      subst ei
      show pX4_tip_39s _ Q _ _ _
      unfold pX4_tip_39s
      exact b_le (by omega) (by omega) (fun _ => c_sum (Wf_tp hw i) hc' (h S' hT hc')) (fun z => by omega)
    | succ d ih =>
      intro i S' hi hT hc'
      have hwi := Wf_tp hw i
      have h9 := hwi.2.1
      show pX4_tip_39s (pX4_tip_39 Q (d + 1)) Q _ _ _
      unfold pX4_tip_39s
      refine b_le (by omega) (by omega) (fun z => by omega) (fun _ => c_draw hc' (fun τ1 h1 => ?_))
      intro v54 e54
      rw [rem8 (by have := dw_lt (M := tpN M i); omega)] at e54
      subst e54
      rw [va_up_self]
      refine c_draw h1 (fun τ2 h2 => ?_)
      intro v65 e65
      rw [rem8 (by have := dw_lt (M := sn (tpN M i) 10 0 (zN (tpN M i))); omega)] at e65
      subst e65
      have e9 : τ2 9 0 = nI (tpN M i 9 0) := by
        rw [h2.2.1, sn_ne (by decide), sn_ne (by decide)]
      rw [va_up_self, e9, rem6 (by omega), va_up_self, ten, nI_1, nI_clamp (show tpN M i 9 0 % 6 < 2 ^ 31 by omega)]
      refine ⟨vp_in_nI (by omega) (by decide), c_year (Wf_tp3 hwi) (Rc_s5 h2) (fun τ3 h3 => ih (i + 1) _ (by omega) ?_ ?_)⟩
      · exact hT.up.up.up.up
      · rw [va_up_self]
        exact h3
  exact ⟨_, key n 0 S (by omega) T0.rfl hc⟩
theorem m_tip (hw : Wf M) (hm : Rm M (μ 0)) {n : Nat} (hn : n ≤ 20) {Q : Int32 → Mx → Prop} (h : ∀ μ', Fr0 μ μ' → Rm (tpN M n) (μ' 0) → Q (nI (sumN (tpN M n))) μ') : ∃ m, pX5_tip_39 Q m (nI n) 0 μ := by
  have key : ∀ d i μ', i + d = n → Fr0 μ μ' → Rm (tpN M i) (μ' 0) → pX5_tip_39 Q (d + 1) (nI n) (nI i) μ' := by
    intro d
    induction d with
    | zero =>
      intro i μ' hi hT hm'
      have ei : i = n := by omega
      subst ei
      show pX5_tip_39s _ Q _ _ _
      unfold pX5_tip_39s
      exact b_le (by omega) (by omega) (fun _ => m_sum (Wf_tp hw i) hm' (h μ' hT hm')) (fun z => by omega)
    | succ d ih =>
      intro i μ' hi hT hm'
      have hwi := Wf_tp hw i
      have h9 := hwi.2.1
      show pX5_tip_39s (pX5_tip_39 Q (d + 1)) Q _ _ _
      unfold pX5_tip_39s
      refine b_le (by omega) (by omega) (fun z => by omega) (fun _ => m_draw hm' (fun τ1 h1 f1 => ?_))
      intro v51 e51
      rw [rem8 (by have := dw_lt (M := tpN M i); omega)] at e51
      subst e51
      refine m_draw h1 (fun τ2 h2 f2 => ?_)
      intro v59 e59
      rw [rem8 (by have := dw_lt (M := sn (tpN M i) 10 0 (zN (tpN M i))); omega)] at e59
      subst e59
      have e9 : τ2 0 0 = nI (tpN M i 9 0) := by
        rw [h2.1, sn_ne (by decide), sn_ne (by decide)]
      refine m_place e9 (by omega) ?_
      rw [ten, nI_1, nI_clamp (show 3 + tpN M i 9 0 % 6 < 2 ^ 31 by omega)]
      refine ⟨vp_in_nI (by omega) (by decide), m_year (Wf_tp3 hwi) (Rm_s5 h2 (by omega)) (fun τ3 h3 f3 => ih (i + 1) _ (by omega) ?_ h3)⟩
      exact Fr0.tr hT (Fr0.tr f1 (Fr0.tr f2 (Fr0.tr Fr0.st f3)))
  exact ⟨_, key n 0 μ (by omega) Fr0.rfl hm⟩
theorem ok24 : OK_24 Inv := by
  intro S μ x1 hI
  have hI' := hI
  obtain ⟨M, hw, hc, hm, ho⟩ := hI'
  have h8 := hw.1
  have h9 := hw.2.1
  have G : pX5_finding μ (-1000001) (fun r1 u1 => (-1000001) - nI 0 = r1 ∧ Inv (fS S 0) u1) := fin hI 0 (by decide) (by decide)
  unfold pX4_tip pX4_tip_11
  refine rg1 (n := 20) (by decide) rfl (fun no => c_found 0 (by decide) rfl ?_) (fun n n1 n2 e => ?_)
  · unfold pX5_tip
    exact m_w1 (n := 20) (by decide) rfl (fun y => absurd y no) (fun _ => t0' G)
  · have hin : In1 20 x1 := ⟨n, n1, n2, e⟩
    subst e
    rw [hc.2.1, nI_add]
    have hv0 : vp_in 0 67 := v_0 (by decide) (by decide)
    refine b_le (b := 99999) (by omega) (by decide) (fun z => c_tip hw hc n2 (fun S' hT hc' => ?_)) (fun z => c_found 4 (by decide) rfl ?_)
    · unfold pX5_tip
      refine m_w1 (n := 20) (by decide) rfl (fun _ => t1' ⟨hv0, ?_⟩) (fun y => absurd hin y)
      rw [m_0, hm.1, nI_add]
      exact b_le (b := 99999) (by omega) (by decide) (fun _ => m_tip hw hm n2 (fun μ' hf hm' => ⟨rfl, ho.inv (Wf_tp hw n) hc' hm' hT.fs hf.fm⟩)) (fun y => by omega)
    · unfold pX5_tip
      refine m_w1 (n := 20) (by decide) rfl (fun _ => t1' ⟨hv0, ?_⟩) (fun y => absurd hin y)
      rw [m_0, hm.1, nI_add]
      exact b_le (b := 99999) (by omega) (by decide) (fun y => by omega) (fun _ => fin hI 4 (by decide) (by decide))
end Swaps
