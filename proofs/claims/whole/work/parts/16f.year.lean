section Pure
variable {M : Nx} {σ μ : Mx}
/-- the first k pieces cut -/
def cuN (M : Nx) (k : Nat) : Nx := fun g j => if g = 1 ∧ j < k then (M 1 j + growK (M 0 j)) % 10 else M g j
theorem cuN_ne {k g : Nat} (h : g ≠ 1) : cuN M k g = M g := by
  funext j
  unfold cuN
  exact if_neg (fun z => h z.1)
theorem cuN_ge {k j : Nat} (h : k ≤ j) : cuN M k 1 j = M 1 j := by
  unfold cuN
  exact if_neg (fun z => absurd z.2 (by omega))
theorem cuN_0 : cuN M 0 = M := by
  funext g j
  unfold cuN
  exact if_neg (fun z => absurd z.2 (by omega))
theorem cuN_s {k : Nat} : sn (cuN M k) 1 k ((M 1 k + growK (M 0 k)) % 10) = cuN M (k + 1) := by
  funext g j
  unfold sn cuN
  by_cases e : g = 1 ∧ j = k
  · rw [if_pos e, if_pos ⟨e.1, by omega⟩, e.2]
  · rw [if_neg e]
    by_cases e2 : g = 1 ∧ j < k
    · rw [if_pos e2, if_pos ⟨e2.1, by omega⟩]
    · rw [if_neg e2, if_neg (fun z => by
        rcases Nat.lt_or_ge j k with h | h
        · exact e2 ⟨z.1, h⟩
        · exact e ⟨z.1, by omega⟩)]
theorem Wf_cu (hw : Wf M) : ∀ k, Wf (cuN M k)
  | 0 => by rw [cuN_0]; exact hw
  | k + 1 => by
    rw [← cuN_s]
    exact Wf_s1 (Wf_cu hw k) (Nat.mod_lt _ (by decide))
theorem rem10 {a : Nat} (h : a < 2 ^ 31) : nI a - nI a / 10 * 10 = nI (a % 10) := remL 10 rfl h (by decide) (by decide)
theorem c_cut (hw : Wf M) (hr : Rc M σ) {Q : Mx → Prop} (h : ∀ σ', Rc (cuN M (M 8 0)) σ' → Q σ') : pX1_cut σ Q := by
  have h8 := hw.1
  have key : ∀ d i τ, i + d = M 8 0 → Rc (cuN M i) τ → pX1_cut_2 Q (d + 1) (nI i) τ := by
    intro d
    induction d with
    | zero =>
      intro i τ hi hτ
      show pX1_cut_2s _ Q _ _
      unfold pX1_cut_2s
      have e8 : τ 8 0 = nI (M 8 0) := by rw [hτ.1, cuN_ne (by decide)]
      rw [e8]
      refine b_le (by omega) (by omega) (fun _ => ?_) (fun z => by omega)
      have e : i = M 8 0 := by omega
      rw [e] at hτ
      exact h _ hτ
    | succ d ih =>
      intro i τ hi hτ
      show pX1_cut_2s (pX1_cut_2 Q (d + 1)) Q _ _
      unfold pX1_cut_2s
      have e8 : τ 8 0 = nI (M 8 0) := by rw [hτ.1, cuN_ne (by decide)]
      have hv : vp_in (nI i) 8 := vp_in_nI (by omega) (by decide)
      have hi' : i < cuN M i 8 0 := by rw [cuN_ne (by decide)]; omega
      have hm := (hw.2.2.2.1 i (by omega)).2.1
      have e1 : τ 1 i = nI (M 1 i) := by rw [(hτ.2.2.2.1 i hi').2.1, cuN_ge (Nat.le_refl i)]
      rw [e8]
      refine b_le (by omega) (by omega) (fun z => by omega) (fun _ => ⟨hv, c_grows (Wf_cu hw i) hτ hi' ⟨hv, ?_⟩⟩)
      rw [cuN_ne (by decide), nI_clamp (by omega), e1, nI_add]
      have hg : growK (M 0 i) < 9 := growK_lt
      rw [rem10 (by omega), nI_1]
      refine ih (i + 1) _ (by omega) ?_
      rw [← cuN_s]
      exact Rc_s1 hτ
  exact ⟨_, key (M 8 0) 0 σ (by omega) (by rw [cuN_0]; exact hr)⟩
def swN (M : Nx) : Nat := M 5 (M 9 0 % 6)
def ye1 (M : Nx) : Nx := exP M (swN M / 10) (swN M % 10)
def ye2 (M : Nx) : Nx := if M 9 0 % 3 = 2 then cuN (ye1 M) (M 8 0) else ye1 M
def yeN (M : Nx) : Nx := sn (ye2 M) 9 0 (if M 9 0 + 1 < 99999 then M 9 0 + 1 else 99999)
theorem swN_lt (hw : Wf M) : swN M < 100 := by
  obtain ⟨a, b, ha, hb, e⟩ := hw.2.2.2.2.2.1 (M 9 0 % 6) (Nat.mod_lt _ (by decide))
  unfold swN
  omega
theorem ye1_ne {g : Nat} (h : g ≠ 4) : ye1 M g = M g := exP_ne h
theorem Wf_ye1 (hw : Wf M) : Wf (ye1 M) := Wf_exP hw
theorem ye2_ne {g : Nat} (h : g ≠ 4) (h1 : g ≠ 1) : ye2 M g = M g := by
  unfold ye2
  split
  · rw [cuN_ne h1, ye1_ne h]
  · exact ye1_ne h
theorem Wf_ye2 (hw : Wf M) : Wf (ye2 M) := by
  unfold ye2
  split
  · exact Wf_cu (Wf_ye1 hw) _
  · exact Wf_ye1 hw
theorem Wf_ye (hw : Wf M) : Wf (yeN M) := by
  unfold yeN
  refine Wf_s9 (Wf_ye2 hw) ?_
  split <;> omega
theorem ye_n : yeN M 8 0 = M 8 0 := by
  unfold yeN
  rw [sn_ne (by decide), ye2_ne (by decide) (by decide)]
theorem c_year (hw : Wf M) (hr : Rc M σ) {Q : Mx → Prop} (h : ∀ σ', Rc (yeN M) σ' → Q σ') : pX1_passYear σ Q := by
  have h8 := hw.1
  have h9 := hw.2.1
  have hs := swN_lt hw
  unfold pX1_passYear
  have e6 : nI (M 9 0) - nI (M 9 0) / 6 * 6 = nI (M 9 0 % 6) := remL 6 rfl (by omega) (by decide) (by decide)
  have hm : M 9 0 % 6 < 6 := Nat.mod_lt _ (by decide)
  rw [hr.2.1, e6, nI_clamp (by omega), hr.2.2.2.2.1 _ hm]
  refine ⟨vp_in_nI hm (by decide), ?_⟩
  intro v12 e12
  have ed : nI (swN M) / 10 = nI (swN M / 10) := pk_div (d := 10) (by omega) (by decide) (by decide)
  have er := rem10 (a := swN M) (by omega)
  refine c_ex hw hr (a := swN M / 10) (b := swN M % 10) (by rw [e12]; exact ed) (by rw [e12]; exact er) (by omega) (by omega) ?_
  intro τ hτ
  have hτ1 : Rc (ye1 M) τ := hτ
  have e9 : τ 9 0 = nI (M 9 0) := by rw [hτ1.2.1, ye1_ne (by decide)]
  have e3 : nI (M 9 0) - nI (M 9 0) / 3 * 3 = nI (M 9 0 % 3) := remL 3 rfl (by omega) (by decide) (by decide)
  have fin : ∀ υ, Rc (ye2 M) υ → pX1_passYear_39 Q υ := by
    intro υ hυ
    have e9' : υ 9 0 = nI (M 9 0) := by rw [hυ.2.1, ye2_ne (by decide) (by decide)]
    unfold pX1_passYear_39 pX1_passYear_58
    rw [e9']
    refine b_le (a := 99999) (by decide) (by omega) (fun z => h _ ?_) (fun z => h _ ?_)
    · have e : M 9 0 = 99999 := by omega
      have hs9 := Rc_s9 hυ (v := 99999)
      have ey : yeN M = sn (ye2 M) 9 0 99999 := by unfold yeN; rw [e]; rfl
      have ez : st υ 9 0 (nI 99999) = υ := by
        funext g j
        unfold st
        by_cases c : g = 9 ∧ j = 0
        · rw [if_pos c, c.1, c.2, e9', e]
        · rw [if_neg c]
      rw [ez] at hs9
      rw [ey]
      exact hs9
    · have hs9 := Rc_s9 hυ (v := M 9 0 + 1)
      have ey : yeN M = sn (ye2 M) 9 0 (M 9 0 + 1) := by
        unfold yeN
        congr 1
        split <;> omega
      rw [ey, nI_1]
      exact hs9
  rw [e9, e3]
  refine b_eq' (b := 2) (by omega) (by decide) (fun z => ?_) (fun z => ?_)
  · refine c_cut (Wf_ye1 hw) hτ1 (fun υ hυ => fin υ ?_)
    unfold ye2
    rw [if_pos z]
    rw [ye1_ne (by decide)] at hυ
    exact hυ
  · refine fin τ ?_
    unfold ye2
    rw [if_neg z]
    exact hτ1
theorem m_0 : (0 : Int32).toNatClampNeg = 0 := rfl
theorem m_1 : (1 : Int32).toNatClampNeg = 1 := rfl
theorem m_2 : (2 : Int32).toNatClampNeg = 2 := rfl
theorem v_0 {N : Nat} (h : 0 < N) (hN : N < 2 ^ 31) : vp_in 0 N := vp_in_nI (n := 0) h hN
theorem v_1 {N : Nat} (h : 1 < N) (hN : N < 2 ^ 31) : vp_in 1 N := vp_in_nI (n := 1) h hN
theorem v_2 {N : Nat} (h : 2 < N) (hN : N < 2 ^ 31) : vp_in 2 N := vp_in_nI (n := 2) h hN
theorem m_year (hw : Wf M) (hr : Rm M (μ 0)) {Q : Mx → Prop} (h : ∀ μ', Rm (yeN M) (μ' 0) → Fr0 μ μ' → Q μ') : pX5_year μ Q := by
  have h8 := hw.1
  have h9 := hw.2.1
  have hs := swN_lt hw
  have hm : M 9 0 % 6 < 6 := Nat.mod_lt _ (by decide)
  have e6 : nI (M 9 0) - nI (M 9 0) / 6 * 6 = nI (M 9 0 % 6) := remL 6 rfl (by omega) (by decide) (by decide)
  have hpl : ∀ {R : Int32 → Prop}, R (nI (3 + M 9 0 % 6)) → pX5_placeNow μ R := by
    intro R hR
    unfold pX5_placeNow
    have e3 : (3 : Int32) + nI (M 9 0 % 6) = nI (3 + M 9 0 % 6) := nI_add 3 _
    rw [m_0, hr.1, e6, e3]
    exact ⟨v_0 (by decide) (by decide), hR⟩
  have e3 : nI (M 9 0) - nI (M 9 0) / 3 * 3 = nI (M 9 0 % 3) := remL 3 rfl (by omega) (by decide) (by decide)
  have hv0 : vp_in 0 67 := v_0 (by decide) (by decide)
  have hv1 : vp_in 1 67 := v_1 (by decide) (by decide)
  have fin : ∀ υ, Rm (ye2 M) (υ 0) → Fr0 μ υ → pX5_year_103 Q υ := by
    intro υ hυ hf
    have e9' : υ 0 0 = nI (M 9 0) := by rw [hυ.1, ye2_ne (by decide) (by decide)]
    unfold pX5_year_103
    refine ⟨hv0, ?_⟩
    intro v e
    rw [m_0, e9', nI_1] at e
    have hs9 := Rm_s9 hυ (v := if M 9 0 + 1 < 99999 then M 9 0 + 1 else 99999)
    have e2 : v = nI (if M 9 0 + 1 < 99999 then M 9 0 + 1 else 99999) := by
      have hl : nI (M 9 0 + 1) < 99999 ↔ M 9 0 + 1 < 99999 := nI_ltI (b := 99999) (by omega) (by decide)
      rw [e]
      by_cases c : M 9 0 + 1 < 99999
      · rw [if_pos c, if_pos (hl.mpr c)]
      · rw [if_neg c, if_neg (fun z => c (hl.mp z))]
        rfl
    rw [m_0, e2]
    exact ⟨hv0, h _ hs9 (Fr0.tr hf Fr0.st)⟩
  have lp : ∀ υ, Rm (ye1 M) (υ 0) → Fr0 μ υ → pX5_year_48 Q υ := by
    intro υ0 hυ0 hf0
    have hw1 := Wf_ye1 hw
    have en : ye1 M 8 0 = M 8 0 := by rw [ye1_ne (by decide)]
    have ey : ye1 M 9 0 = M 9 0 := by rw [ye1_ne (by decide)]
    by_cases c3 : M 9 0 % 3 = 2
    · have key : ∀ d i υ, i + d = M 8 0 → Rm (cuN (ye1 M) i) (υ 0) → Fr0 μ υ → pX5_year_50 Q (d + 1) (nI i) υ := by
        intro d
        induction d with
        | zero =>
          intro i υ hi hυ hf
          show pX5_year_50s _ Q _ _
          unfold pX5_year_50s
          have e1 : υ 0 1 = nI (M 8 0) := by rw [hυ.2.1, cuN_ne (by decide), en]
          rw [m_1, e1]
          refine ⟨hv1, b_le (by omega) (by omega) (fun _ => fin υ ?_ hf) (fun z => by omega)⟩
          have e : i = M 8 0 := by omega
          rw [e] at hυ
          unfold ye2
          rw [if_pos c3]
          exact hυ
        | succ d ih =>
          intro i υ hi hυ hf
          show pX5_year_50s (pX5_year_50 Q (d + 1)) Q _ _
          unfold pX5_year_50s
          have hwi := Wf_cu hw1 i
          have e1 : υ 0 1 = nI (M 8 0) := by rw [hυ.2.1, cuN_ne (by decide), en]
          have e0 : υ 0 0 = nI (M 9 0) := by rw [hυ.1, cuN_ne (by decide), ey]
          have hi' : i < cuN (ye1 M) i 8 0 := by rw [cuN_ne (by decide), en]; omega
          have hm1 := (hw1.2.2.2.1 i (by omega)).2.1
          have hg : growK (ye1 M 0 i) < 9 := growK_lt
          rw [m_1, m_0, e1, e0, e3]
          refine ⟨hv1, b_le (by omega) (by omega) (fun z => by omega) (fun _ => ⟨hv0, b_eq' (b := 2) (by omega) (by decide) (fun _ => ?_) (fun z => absurd c3 z)⟩)⟩
          refine m_pieceAt (f := 1) (m_f1 hwi hυ hi' (m_grows hwi hυ hi' ⟨vp_in_nI (by omega) (by decide), ?_⟩))
          rw [cuN_ge (Nat.le_refl i), cuN_ne (by decide), nI_clamp (by omega), nI_add, rem10 (by omega), nI_1]
          refine ih (i + 1) _ (by omega) ?_ (Fr0.tr hf Fr0.st)
          rw [← cuN_s]
          exact Rm_s1 hυ (by omega)
      exact ⟨_, key (M 8 0) 0 υ0 (by omega) (by rw [cuN_0]; exact hυ0) hf0⟩
    · refine ⟨1, ?_⟩
      show pX5_year_50s _ Q _ _
      unfold pX5_year_50s
      have e1 : υ0 0 1 = nI (M 8 0) := by rw [hυ0.2.1, en]
      have e0 : υ0 0 0 = nI (M 9 0) := by rw [hυ0.1, ey]
      have f2 : pX5_year_103 Q υ0 := fin υ0 (by unfold ye2; rw [if_neg c3]; exact hυ0) hf0
      rw [m_1, m_0, e1, e0, e3]
      exact ⟨hv1, fun _ => f2, fun _ => ⟨hv0, b_eq' (b := 2) (by omega) (by decide) (fun z => absurd z c3) (fun _ => f2)⟩⟩
  unfold pX5_year
  have hv3 : vp_in (nI (3 + M 9 0 % 6)) 67 := vp_in_nI (by omega) (by decide)
  refine hpl ⟨hv3, ?_⟩
  intro v12 e12
  refine hpl ⟨hv3, ?_⟩
  intro v25 e25
  have es : μ 0 (3 + M 9 0 % 6) = nI (swN M) := hr.2.2.2.1 _ hm
  rw [nI_clamp (by omega), es] at e12 e25
  have ed : nI (swN M) / 10 = nI (swN M / 10) := pk_div (d := 10) (by omega) (by decide) (by decide)
  rw [ed] at e12
  rw [rem10 (by omega)] at e25
  subst e12 e25
  refine m_isPiece hr h8 (fun i hi e => ?_) (fun ho => ?_)
  · have ea : swN M / 10 = i := (nI_eq (by omega) (by omega)).mp e
    subst ea
    refine t1 (m_isPiece hr h8 (fun j hj e => ?_) (fun ho => ?_))
    · have eb : swN M % 10 = j := (nI_eq (by omega) (by omega)).mp e
      subst eb
      refine t1 (m_ex hw hr rfl rfl hi hj (fun υ hυ hf => lp υ ?_ hf))
      unfold ye1 exP
      rw [if_pos ⟨hi, hj⟩]
      exact hυ
    · refine t0 (lp μ ?_ Fr0.rfl)
      unfold ye1 exP
      rw [if_neg (fun z => ho _ z.2 rfl)]
      exact hr
  · refine t0 (lp μ ?_ Fr0.rfl)
    unfold ye1 exP
    rw [if_neg (fun z => ho _ z.1 rfl)]
    exact hr
def yrN (M : Nx) : Nat → Nx
  | 0 => M
  | k + 1 => yeN (yrN M k)
theorem Wf_yr (hw : Wf M) : ∀ k, Wf (yrN M k)
  | 0 => hw
  | k + 1 => Wf_ye (Wf_yr hw k)
theorem yr_n : ∀ k, yrN M k 8 0 = M 8 0
  | 0 => rfl
  | k + 1 => by rw [yrN, ye_n, yr_n k]
theorem c_years (hw : Wf M) (hr : Rc M σ) {n : Nat} (hn : n < 2 ^ 30) {Q : Mx → Prop} (h : ∀ σ', Rc (yrN M n) σ' → Q σ') : pX1_passYears σ (nI n) Q := by
  have key : ∀ d i τ, i + d = n → Rc (yrN M i) τ → pX1_passYears_2 Q (d + 1) (nI n) (nI i) τ := by
    intro d
    induction d with
    | zero =>
      intro i τ hi hτ
      show pX1_passYears_2s _ Q _ _ _
      unfold pX1_passYears_2s
      refine b_le (by omega) (by omega) (fun _ => h _ ?_) (fun z => by omega)
      have e : i = n := by omega
      rw [← e]
      exact hτ
    | succ d ih =>
      intro i τ hi hτ
      show pX1_passYears_2s (pX1_passYears_2 Q (d + 1)) Q _ _ _
      unfold pX1_passYears_2s
      refine b_le (by omega) (by omega) (fun z => by omega) (fun _ => c_year (Wf_yr hw i) hτ (fun υ hυ => ?_))
      rw [nI_1]
      exact ih (i + 1) υ (by omega) hυ
  exact ⟨_, key n 0 σ (by omega) hr⟩
theorem m_years (hw : Wf M) (hr : Rm M (μ 0)) {n : Nat} (hn : n < 2 ^ 30) {Q : Mx → Prop} (h : ∀ μ', Rm (yrN M n) (μ' 0) → Fr0 μ μ' → Q μ') : pX5_yearsGo μ (nI n) Q := by
  have key : ∀ d i τ, i + d = n → Rm (yrN M i) (τ 0) → Fr0 μ τ → pX5_yearsGo_2 Q (d + 1) (nI n) (nI i) τ := by
    intro d
    induction d with
    | zero =>
      intro i τ hi hτ hf
      show pX5_yearsGo_2s _ Q _ _ _
      unfold pX5_yearsGo_2s
      refine b_le (by omega) (by omega) (fun _ => h _ ?_ hf) (fun z => by omega)
      have e : i = n := by omega
      rw [← e]
      exact hτ
    | succ d ih =>
      intro i τ hi hτ hf
      show pX5_yearsGo_2s (pX5_yearsGo_2 Q (d + 1)) Q _ _ _
      unfold pX5_yearsGo_2s
      refine b_le (by omega) (by omega) (fun z => by omega) (fun _ => m_year (Wf_yr hw i) hτ (fun υ hυ hg => ?_))
      rw [nI_1]
      exact ih (i + 1) υ (by omega) hυ (Fr0.tr hf hg)
  exact ⟨_, key n 0 μ (by omega) hr Fr0.rfl⟩
end Pure
