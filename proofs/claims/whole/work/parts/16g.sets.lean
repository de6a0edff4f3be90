/-- the set of those below k that are so -/
def bS (f : Nat → Bool) : Nat → Nat
  | 0 => 0
  | k + 1 => bS f k + (if f k then 2 ^ k else 0)
theorem bS_lt {f : Nat → Bool} : ∀ k, bS f k < 2 ^ k
  | 0 => by simp [bS]
  | k + 1 => by
    have h := bS_lt (f := f) k
    rw [bS, Nat.pow_succ]
    split <;> omega
theorem or_bit : ∀ p, p < 8 → ∀ a, a < 256 → a < 2 ^ p → nI a ||| (1 <<< (nI p &&& 31)) = nI (a + 2 ^ p) := by decide +kernel
theorem p128 {p : Nat} (h : p < 8) : 2 ^ p ≤ 128 := Nat.le_trans (Nat.pow_le_pow_right (by decide) (show p ≤ 7 by omega)) (by decide)
theorem or_bit' {p a : Nat} (hp : p < 8) (ha : a < 2 ^ p) : nI a ||| (1 <<< (nI p &&& 31)) = nI (a + 2 ^ p) := or_bit p hp a (by have := p128 hp; omega) ha
theorem or_0 {x : Int32} : x ||| 0 = x := Int32.or_zero
theorem m1_neg {m : Nat} (h : m < 2 ^ 30) : nI m - 1 < 0 ↔ m = 0 := by
  have e : (nI m - 1).toInt = (m : Int) - 1 := pk_sub_toInt (b := 1) h (by decide)
  rw [Int32.lt_iff_toInt_lt, e, Int32.toInt_zero]
  omega
theorem m1_nn {m : Nat} (h : m < 2 ^ 30) : 0 ≤ nI m - 1 ↔ m ≠ 0 := by
  have e : (nI m - 1).toInt = (m : Int) - 1 := pk_sub_toInt (b := 1) h (by decide)
  rw [Int32.le_iff_toInt_le, e, Int32.toInt_zero]
  omega
section Pure
variable {M : Nx} {σ μ : Mx}
noncomputable def grB (M : Nx) (p : Nat) : Bool := decide (posN M p + 1 < M 8 0 ∧ M 3 p = M 4 (posN M p + 1) + 1)
theorem c_granted (hw : Wf M) (hr : Rc M σ) {p : Nat} (hp : p < M 8 0) {Q : Int32 → Prop} (h1 : grB M p = true → Q 1) (h0 : grB M p = false → Q 0) : pX1_isGranted σ (nI p) Q := by
  have h8 := hw.1
  have g := (hw.pos hp).1
  unfold pX1_isGranted pX1_isGranted_35 pX1_isGranted_36
  refine c_place hw hr hp ?_
  intro v7 e7
  rw [nI_1] at e7
  subst e7
  rw [hr.1]
  refine b_le (by omega) (by omega) (fun z => ⟨Or.inl rfl, h0 ?_⟩) (fun z => ?_)
  · exact decide_eq_false (fun y => by omega)
  · rw [nI_clamp (by omega), nI_clamp (by omega), (hr.2.2.2.1 _ z).2.2.2.2, (hr.2.2.2.1 p hp).2.2.2.1]
    have hm : nI (M 3 p) - 1 = nI (M 4 (posN M p + 1)) ↔ M 3 p = M 4 (posN M p + 1) + 1 := m1_eq (by have := (hw.2.2.2.1 p hp).2.2.2.1; omega) (by have := hw.row z; omega)
    refine ⟨vp_in_nI (by omega) (by decide), vp_in_nI (by omega) (by decide), fun c => ⟨Or.inl rfl, h0 ?_⟩, fun c => ⟨Or.inr rfl, h1 ?_⟩⟩
    · exact decide_eq_false (fun y => c (hm.mpr y.2).symm)
    · exact decide_eq_true ⟨z, hm.mp c.symm⟩
theorem m_granted (hw : Wf M) (hr : Rm M (μ 0)) {p : Nat} (hp : p < M 8 0) {Q : Int32 → Prop} (h1 : grB M p = true → Q 1) (h0 : grB M p = false → Q 0) : pX5_isGranted μ (nI p) Q := by
  have h8 := hw.1
  have g := (hw.pos hp).1
  unfold pX5_isGranted pX5_isGranted_40 pX5_isGranted_41
  refine m_where hw hr hp ?_
  intro v7 e7
  rw [nI_1] at e7
  subst e7
  rw [m_1, hr.2.1]
  refine ⟨v_1 (by decide) (by decide), b_le (by omega) (by omega) (fun z => ⟨Or.inl rfl, h0 ?_⟩) (fun z => ?_)⟩
  · exact decide_eq_false (fun y => by omega)
  · rw [m_at59 (by omega), hr.2.2.2.2.2.2 _ z]
    refine ⟨m_in59 (by omega), m_f3 hw hr hp ?_⟩
    have hm : nI (M 3 p) - 1 = nI (M 4 (posN M p + 1)) ↔ M 3 p = M 4 (posN M p + 1) + 1 := m1_eq (by have := (hw.2.2.2.1 p hp).2.2.2.1; omega) (by have := hw.row z; omega)
    refine ⟨fun c => ⟨Or.inl rfl, h0 ?_⟩, fun c => ⟨Or.inr rfl, h1 ?_⟩⟩
    · exact decide_eq_false (fun y => c (hm.mpr y.2).symm)
    · exact decide_eq_true ⟨z, hm.mp c.symm⟩
theorem c_grs (hw : Wf M) (hr : Rc M σ) {Q : Int32 → Prop} (h : Q (nI (bS (grB M) (M 8 0)))) : pX1_grantedPieces σ Q := by
  have h8 := hw.1
  have key : ∀ d i, i + d = M 8 0 → pX1_grantedPieces_4 σ Q (d + 1) (nI (bS (grB M) i)) (nI i) := by
    intro d
    induction d with
    | zero =>
      intro i hi
      show pX1_grantedPieces_4s σ _ Q _ _
      unfold pX1_grantedPieces_4s
      rw [hr.1]
      refine b_le (by omega) (by omega) (fun _ => ?_) (fun z => by omega)
      have e : i = M 8 0 := by omega
      rw [e]
      exact h
    | succ d ih =>
      intro i hi
      show pX1_grantedPieces_4s σ (pX1_grantedPieces_4 σ Q (d + 1)) Q _ _
      unfold pX1_grantedPieces_4s pX1_grantedPieces_26
      rw [hr.1]
      have hn := ih (i + 1) (by omega)
      refine b_le (by omega) (by omega) (fun z => by omega) (fun _ => c_granted hw hr (by omega) (fun g => t1 ?_) (fun g => t0 ?_))
      · intro v e
        rw [or_bit' (by omega) (bS_lt i)] at e
        rw [e, nI_1]
        rw [bS, if_pos g] at hn
        exact hn
      · rw [nI_1]
        rw [bS, if_neg (by rw [g]; decide)] at hn
        exact hn
  exact ⟨_, key (M 8 0) 0 (by omega)⟩
theorem m_grs (hw : Wf M) (hr : Rm M (μ 0)) {Q : Int32 → Prop} (h : Q (nI (bS (grB M) (M 8 0)))) : pX5_grantedOnes μ Q := by
  have h8 := hw.1
  have hv1 : vp_in 1 67 := v_1 (by decide) (by decide)
  have key : ∀ d i, i + d = M 8 0 → pX5_grantedOnes_4 μ Q (d + 1) (nI (bS (grB M) i)) (nI i) := by
    intro d
    induction d with
    | zero =>
      intro i hi
      show pX5_grantedOnes_4s μ _ Q _ _
      unfold pX5_grantedOnes_4s
      rw [m_1, hr.2.1]
      refine ⟨hv1, b_le (by omega) (by omega) (fun _ => ?_) (fun z => by omega)⟩
      have e : i = M 8 0 := by omega
      rw [e]
      exact h
    | succ d ih =>
      intro i hi
      show pX5_grantedOnes_4s μ (pX5_grantedOnes_4 μ Q (d + 1)) Q _ _
      unfold pX5_grantedOnes_4s pX5_grantedOnes_30
      rw [m_1, hr.2.1]
      have hn := ih (i + 1) (by omega)
      refine ⟨hv1, b_le (by omega) (by omega) (fun z => by omega) (fun _ => m_granted hw hr (by omega) (fun g => t1 ?_) (fun g => t0 ?_))⟩
      · intro v e
        rw [or_bit' (by omega) (bS_lt i)] at e
        rw [e, nI_1]
        rw [bS, if_pos g] at hn
        exact hn
      · intro v e
        rw [or_0] at e
        rw [e, nI_1]
        rw [bS, if_neg (by rw [g]; decide)] at hn
        exact hn
  exact ⟨_, key (M 8 0) 0 (by omega)⟩
def clB (M : Nx) (i : Nat) : Bool := decide (gapN M (M 4 i) (M 4 (i + 1)) = 0)
theorem c_closed (hw : Wf M) (hr : Rc M σ) {Q : Int32 → Prop} (h : Q (nI (bS (clB M) (M 8 0 - 1)))) : pX1_closedPlaces σ Q := by
  have h8 := hw.1
  have key : ∀ d i, i + d = M 8 0 - 1 → pX1_closedPlaces_4 σ Q (d + 1) (nI (bS (clB M) i)) (nI i) := by
    intro d
    induction d with
    | zero =>
      intro i hi
      show pX1_closedPlaces_4s σ _ Q _ _
      unfold pX1_closedPlaces_4s
      rw [hr.1, nI_1]
      refine b_le (by omega) (by omega) (fun _ => ?_) (fun z => by omega)
      have e : i = M 8 0 - 1 := by omega
      rw [e]
      exact h
    | succ d ih =>
      intro i hi
      show pX1_closedPlaces_4s σ (pX1_closedPlaces_4 σ Q (d + 1)) Q _ _
      unfold pX1_closedPlaces_4s pX1_closedPlaces_28
      have hn := ih (i + 1) (by omega)
      have hg := gapN_lt hw (hw.row (i := i) (by omega)) (hw.row (i := i + 1) (by omega))
      rw [hr.1, nI_1]
      refine b_le (by omega) (by omega) (fun z => by omega) (fun _ => c_gapB hw hr (by omega) (b_eq' (b := 0) (by omega) (by decide) (fun g => ?_) (fun g => ?_)))
      · intro v e
        rw [or_bit' (by omega) (bS_lt i)] at e
        rw [e]
        rw [bS, if_pos (show clB M i = true from decide_eq_true g)] at hn
        exact hn
      · rw [bS, if_neg (show ¬ clB M i = true from fun z => g (of_decide_eq_true z))] at hn
        exact hn
  exact ⟨_, key (M 8 0 - 1) 0 (by omega)⟩
theorem m_gapB (hw : Wf M) (hr : Rm M (μ 0)) {i : Nat} (hi : i + 1 < M 8 0) {Q : Int32 → Prop} (h : Q (nI (gapN M (M 4 i) (M 4 (i + 1))))) : vp_in ((59 + nI (i + 1)) - 1) 67 ∧ vp_in (59 + nI (i + 1)) 67 ∧ pX5_gapOf μ (μ 0 ((59 + nI (i + 1)) - 1).toNatClampNeg) (μ 0 (59 + nI (i + 1)).toNatClampNeg) Q := by
  have h8 := hw.1
  have e1 : (59 + nI (i + 1)) - 1 = nI (59 + i) := by
    rw [m_row]
    exact nI_pred (59 + i)
  rw [e1, m_at59 (by omega), nI_clamp (by omega), hr.2.2.2.2.2.2 i (by omega), hr.2.2.2.2.2.2 (i + 1) (by omega)]
  exact ⟨vp_in_nI (by omega) (by decide), m_in59 (by omega), m_gap hw hr (hw.row (by omega)) (hw.row (by omega)) h⟩
theorem m_closed (hw : Wf M) (hr : Rm M (μ 0)) {Q : Int32 → Prop} (h : Q (nI (bS (clB M) (M 8 0 - 1)))) : pX5_closePlaces μ Q := by
  have h8 := hw.1
  have hv1 : vp_in 1 67 := v_1 (by decide) (by decide)
  have key : ∀ d i, i + d = M 8 0 - 1 → pX5_closePlaces_4 μ Q (d + 1) (nI (bS (clB M) i)) (nI (i + 1)) := by
    intro d
    induction d with
    | zero =>
      intro i hi
      show pX5_closePlaces_4s μ _ Q _ _
      unfold pX5_closePlaces_4s
      rw [m_1, hr.2.1]
      refine ⟨hv1, b_le (by omega) (by omega) (fun _ => ?_) (fun z => by omega)⟩
      have e : i = M 8 0 - 1 := by omega
      rw [e]
      exact h
    | succ d ih =>
      intro i hi
      show pX5_closePlaces_4s μ (pX5_closePlaces_4 μ Q (d + 1)) Q _ _
      unfold pX5_closePlaces_4s pX5_closePlaces_51
      have hn := ih (i + 1) (by omega)
      have hg := gapN_lt hw (hw.row (i := i) (by omega)) (hw.row (i := i + 1) (by omega))
      have ep : nI (i + 1) - 1 = nI i := nI_pred i
      have hb := m_gapB hw hr (i := i) (by omega) (Q := fun r => (¬ r = 0 → ∀ v52 : Int32, v52 = (nI (bS (clB M) i) ||| 0) → pX5_closePlaces_4 μ Q (d + 1) v52 (nI (i + 1) + 1)) ∧ (r = 0 → ∀ v52 : Int32, v52 = (nI (bS (clB M) i) ||| (1 <<< ((nI (i + 1) - 1) &&& 31))) → pX5_closePlaces_4 μ Q (d + 1) v52 (nI (i + 1) + 1))) (by
        refine b_eq' (b := 0) (by omega) (by decide) (fun g => ?_) (fun g => ?_)
        · intro v e
          rw [ep, or_bit' (by omega) (bS_lt i)] at e
          rw [e, nI_1]
          rw [bS, if_pos (show clB M i = true from decide_eq_true g)] at hn
          exact hn
        · intro v e
          rw [or_0] at e
          rw [e, nI_1]
          rw [bS, if_neg (show ¬ clB M i = true from fun z => g (of_decide_eq_true z))] at hn
          exact hn)
      rw [m_1, hr.2.1]
      exact ⟨hv1, b_le (by omega) (by omega) (fun z => by omega) (fun _ => hb)⟩
  exact ⟨_, key (M 8 0 - 1) 0 (by omega)⟩
/-- the greatest GAP of the first k -/
def mxN (M : Nx) : Nat → Nat
  | 0 => 0
  | k + 1 => if mxN M k < gapN M (M 4 k) (M 4 (k + 1)) then gapN M (M 4 k) (M 4 (k + 1)) else mxN M k
theorem mxN_lt (hw : Wf M) : ∀ k, k ≤ M 8 0 - 1 → mxN M k < 12
  | 0, _ => by simp [mxN]
  | k + 1, hk => by
    have h := mxN_lt hw k (by omega)
    have hg := gapN_lt hw (hw.row (i := k) (by omega)) (hw.row (i := k + 1) (by omega))
    rw [mxN]
    split <;> omega
theorem maxI {a b : Nat} (ha : a < 2 ^ 31) (hb : b < 2 ^ 31) : (if nI a < nI b then nI b else nI a) = nI (if a < b then b else a) := by
  by_cases c : a < b
  · rw [if_pos c, if_pos ((nI_ltI ha hb).mpr c)]
  · rw [if_neg c, if_neg (fun z => c ((nI_ltI ha hb).mp z))]
theorem c_greatest (hw : Wf M) (hr : Rc M σ) {Q : Int32 → Prop} (h : Q (nI (mxN M (M 8 0 - 1)))) : pX1_greatestGap σ Q := by
  have h8 := hw.1
  have key : ∀ d i, i + d = M 8 0 - 1 → pX1_greatestGap_4 σ Q (d + 1) (nI (mxN M i)) (nI i) := by
    intro d
    induction d with
    | zero =>
      intro i hi
      show pX1_greatestGap_4s σ _ Q _ _
      unfold pX1_greatestGap_4s
      rw [hr.1, nI_1]
      refine b_le (by omega) (by omega) (fun _ => ?_) (fun z => by omega)
      have e : i = M 8 0 - 1 := by omega
      rw [e]
      exact h
    | succ d ih =>
      intro i hi
      show pX1_greatestGap_4s σ (pX1_greatestGap_4 σ Q (d + 1)) Q _ _
      unfold pX1_greatestGap_4s
      have hn := ih (i + 1) (by omega)
      have hg := gapN_lt hw (hw.row (i := i) (by omega)) (hw.row (i := i + 1) (by omega))
      have hx := mxN_lt hw i (by omega)
      rw [hr.1, nI_1]
      refine b_le (by omega) (by omega) (fun z => by omega) (fun _ => c_gapB hw hr (by omega) ?_)
      intro v e
      rw [maxI (by omega) (by omega)] at e
      rw [e]
      exact hn
  exact ⟨_, key (M 8 0 - 1) 0 (by omega)⟩
theorem m_widest (hw : Wf M) (hr : Rm M (μ 0)) {Q : Int32 → Prop} (h : Q (nI (mxN M (M 8 0 - 1)))) : pX5_widestGap μ Q := by
  have h8 := hw.1
  have hv1 : vp_in 1 67 := v_1 (by decide) (by decide)
  have key : ∀ d i, i + d = M 8 0 - 1 → pX5_widestGap_4 μ Q (d + 1) (nI (mxN M i)) (nI (i + 1)) := by
    intro d
    induction d with
    | zero =>
      intro i hi
      show pX5_widestGap_4s μ _ Q _ _
      unfold pX5_widestGap_4s
      rw [m_1, hr.2.1]
      refine ⟨hv1, b_le (by omega) (by omega) (fun _ => ?_) (fun z => by omega)⟩
      have e : i = M 8 0 - 1 := by omega
      rw [e]
      exact h
    | succ d ih =>
      intro i hi
      show pX5_widestGap_4s μ (pX5_widestGap_4 μ Q (d + 1)) Q _ _
      unfold pX5_widestGap_4s
      have hn := ih (i + 1) (by omega)
      have hg := gapN_lt hw (hw.row (i := i) (by omega)) (hw.row (i := i + 1) (by omega))
      have hx := mxN_lt hw i (by omega)
      have hb := m_gapB hw hr (i := i) (by omega) (Q := fun r => ∀ v39 : Int32, v39 = (if nI (mxN M i) < r then r else nI (mxN M i)) → pX5_widestGap_4 μ Q (d + 1) v39 (nI (i + 1) + 1)) (by
        intro v e
        rw [maxI (by omega) (by omega)] at e
        rw [e, nI_1]
        exact hn)
      rw [m_1, hr.2.1]
      exact ⟨hv1, b_le (by omega) (by omega) (fun z => by omega) (fun _ => hb)⟩
  exact ⟨_, key (M 8 0 - 1) 0 (by omega)⟩
def fsN (M : Nx) : Nat → Nat
  | 0 => 0
  | k + 1 => fsN M k + (if M 6 k = 0 then 0 else 1)
theorem c_filled (hw : Wf M) (hr : Rc M σ) {Q : Int32 → Prop} (h : Q (nI (fsN M 10))) : pX1_filledSpots σ Q := by
  have h8 := hw.1
  have key : ∀ d i, i + d = 10 → pX1_filledSpots_4 σ Q (d + 1) (nI (fsN M i)) (nI i) := by
    intro d
    induction d with
    | zero =>
      intro i hi
      show pX1_filledSpots_4s σ _ Q _ _
      unfold pX1_filledSpots_4s
      refine b_le (a := 10) (by omega) (by omega) (fun _ => ?_) (fun z => by omega)
      have e : i = 10 := by omega
      rw [e]
      exact h
    | succ d ih =>
      intro i hi
      show pX1_filledSpots_4s σ (pX1_filledSpots_4 σ Q (d + 1)) Q _ _
      unfold pX1_filledSpots_4s pX1_filledSpots_22
      have hn := ih (i + 1) (by omega)
      have h6 := hw.2.2.2.2.2.2 i (by omega)
      rw [nI_clamp (by omega), hr.2.2.2.2.2.1 i (by omega), m1_neg (by omega), nI_1, nI_1]
      refine b_le (a := 10) (by omega) (by omega) (fun z => by omega) (fun _ => ⟨vp_in_nI (by omega) (by decide), fun c => ?_, fun c => ?_⟩)
      · rw [fsN, if_pos c] at hn; exact hn
      · rw [fsN, if_neg c] at hn; exact hn
  exact ⟨_, key 10 0 (by omega)⟩
theorem m_filled (hw : Wf M) (hr : Rm M (μ 0)) {Q : Int32 → Mx → Prop} (h : Q (nI (fsN M 10)) μ) : ∃ n, pX5_count_97 Q n 0 0 μ := by
  have h8 := hw.1
  have key : ∀ d i, i + d = 10 → pX5_count_97 Q (d + 1) (nI (fsN M i)) (nI i) μ := by
    intro d
    induction d with
    | zero =>
      intro i hi
      show pX5_count_97s _ Q _ _ _
      unfold pX5_count_97s
      refine b_le (a := 10) (by omega) (by omega) (fun _ => ?_) (fun z => by omega)
      have e : i = 10 := by omega
      rw [e]
      exact h
    | succ d ih =>
      intro i hi
      show pX5_count_97s (pX5_count_97 Q (d + 1)) Q _ _ _
      unfold pX5_count_97s pX5_count_121
      have hn := ih (i + 1) (by omega)
      have h6 := hw.2.2.2.2.2.2 i (by omega)
      have e9 : (9 : Int32) + nI i = nI (9 + i) := nI_add 9 i
      rw [e9, nI_clamp (by omega), hr.2.2.2.2.1 i (by omega), m1_nn (by omega), nI_1]
      refine b_le (a := 10) (by omega) (by omega) (fun z => by omega) (fun _ => ⟨vp_in_nI (by omega) (by decide), fun c => ?_, fun c => ?_⟩)
      · intro v e
        rw [fsN, if_neg c] at hn
        rw [e, nI_1]
        exact hn
      · intro v e
        have e0 : nI (fsN M i) + 0 = nI (fsN M i) := nI_add _ 0
        rw [fsN, if_pos (by omega)] at hn
        rw [e, e0, nI_1]
        exact hn
  exact ⟨_, key 10 0 (by omega)⟩
theorem or_tb : ∀ p, p < 8 → ∀ a, a < 256 → a < 2 ^ p → ∀ t, t < 2 → nI a ||| (nI t <<< (nI p &&& 31)) = nI (a + t * 2 ^ p) := by decide +kernel
theorem m_turned (hw : Wf M) (hr : Rm M (μ 0)) {Q : Int32 → Prop} (h : Q (nI (tb M (M 8 0)))) : pX5_turnedOnes μ Q := by
  have h8 := hw.1
  have hv1 : vp_in 1 67 := v_1 (by decide) (by decide)
  have key : ∀ d i, i + d = M 8 0 → pX5_turnedOnes_4 μ Q (d + 1) (nI (tb M i)) (nI i) := by
    intro d
    induction d with
    | zero =>
      intro i hi
      show pX5_turnedOnes_4s μ _ Q _ _
      unfold pX5_turnedOnes_4s
      rw [m_1, hr.2.1]
      refine ⟨hv1, b_le (by omega) (by omega) (fun _ => ?_) (fun z => by omega)⟩
      have e : i = M 8 0 := by omega
      rw [e]
      exact h
    | succ d ih =>
      intro i hi
      show pX5_turnedOnes_4s μ (pX5_turnedOnes_4 μ Q (d + 1)) Q _ _
      unfold pX5_turnedOnes_4s
      rw [m_1, hr.2.1]
      have hn := ih (i + 1) (by omega)
      have h7 := hw.tle i (by omega)
      have ht := tb_lt hw.tle i (by omega)
      refine ⟨hv1, b_le (by omega) (by omega) (fun z => by omega) (fun _ => m_f4 hw hr (by omega) ?_)⟩
      intro v e
      rw [or_tb i (by omega) _ (by have := p128 (p := i) (by omega); omega) ht _ (by omega)] at e
      rw [e, nI_1]
      exact hn
  exact ⟨_, key (M 8 0) 0 (by omega)⟩
end Pure
/-- how many are in a set of at most eight -/
def pop (x : Nat) : Nat := x % 2 + x / 2 % 2 + x / 4 % 2 + x / 8 % 2 + x / 16 % 2 + x / 32 % 2 + x / 64 % 2 + x / 128 % 2
theorem j_bits : ∀ x, x < 256 → (fun x1 : Int32 => (fun v9 : Int32 => (fun v23 : Int32 => (fun v33 : Int32 => (fun v40 : Int32 => (fun v47 : Int32 => v47 &&& 63) (v40 + ((v40.toUInt32 >>> ((16 : Int32).toUInt32 &&& Int32.toUInt32 31)).toInt32))) (v33 + ((v33.toUInt32 >>> ((8 : Int32).toUInt32 &&& Int32.toUInt32 31)).toInt32))) ((v23 + ((v23.toUInt32 >>> ((4 : Int32).toUInt32 &&& Int32.toUInt32 31)).toInt32)) &&& 252645135)) ((v9 &&& 858993459) + (((v9.toUInt32 >>> ((2 : Int32).toUInt32 &&& Int32.toUInt32 31)).toInt32) &&& 858993459))) (x1 - (((x1.toUInt32 >>> ((1 : Int32).toUInt32 &&& Int32.toUInt32 31)).toInt32) &&& 1431655765))) (nI x) = nI (pop x) := by decide +kernel
theorem c_bits {x : Nat} (hx : x < 256) {Q : Int32 → Prop} (h : Q (nI (pop x))) : pJ6_bitCount_0f7a4 (nI x) Q := by
  rw [← j_bits x hx] at h
  unfold pJ6_bitCount_0f7a4
  intro v9 e9 v23 e23 v33 e33 v40 e40 v47 e47
  subst e9 e23 e33 e40 e47
  exact h
theorem k_bits : ∀ x, x < 256 → x ≠ 0 → (nI x &&& (nI x - 1)) = nI (x &&& (x - 1)) ∧ pop x = pop (x &&& (x - 1)) + 1 ∧ (x &&& (x - 1)) < x := by decide +kernel
theorem pop_le : ∀ x, x < 256 → pop x ≤ 8 := by decide +kernel
theorem m_bits {x : Nat} (hx : x < 256) {Q : Int32 → Prop} (h : Q (nI (pop x))) : pX5_bits (nI x) Q := by
  have key : ∀ d y c, y < 256 → pop y = d → c + d = pop x → pX5_bits_4 Q (d + 1) (nI c) (nI y) := by
    intro d
    induction d with
    | zero =>
      intro y c hy hd hc
      show pX5_bits_4s _ Q _ _
      unfold pX5_bits_4s
      refine b_eq (b := 0) (by omega) (by decide) (fun _ => ?_) (fun z => ?_)
      · have e : c = pop x := by omega
        rw [e]; exact h
      · have := (k_bits y hy z).2.1
        omega
    | succ d ih =>
      intro y c hy hd hc
      show pX5_bits_4s (pX5_bits_4 Q (d + 1)) Q _ _
      unfold pX5_bits_4s
      refine b_eq (b := 0) (by omega) (by decide) (fun z => ?_) (fun z => ?_)
      · subst z
        have e : pop 0 = 0 := by decide
        omega
      · obtain ⟨k1, k2, k3⟩ := k_bits y hy z
        intro v e
        rw [k1] at e
        rw [e, nI_1]
        exact ih _ _ (by omega) (by omega) (by omega)
  exact ⟨_, key (pop x) x 0 hx rfl (by omega)⟩
