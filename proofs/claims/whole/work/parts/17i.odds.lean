section Odds
variable {M : Nx} {S S' : Nat → Mx} {σ μ μ' : Mx}
theorem fin_g (hI : Inv S μ) (k : Nat) (hk : k < 7) {c : Int32} (hc : c = (-1000001) - nI k) {Q : Int32 → Mx → Prop} (h : ∀ u, Inv (fS S k) u → Q c u) : pX5_finding μ c Q := by
  have g := fin hI k hk hc
  unfold pX5_finding at g ⊢
  exact ⟨g.1, g.2.1, g.2.2.1, g.2.2.2.1, h _ g.2.2.2.2.2⟩
/-- how many of the first k pairs do no harm -/
def hsN (M : Nx) : Nat → Nat
  | 0 => 0
  | k + 1 => hsN M k + (if sumN (exP M (k / 8) (k % 8)) ≤ sumN M then 1 else 0)
theorem hsN_le : ∀ k, hsN M k ≤ k
  | 0 => Nat.le_refl 0
  | k + 1 => by
    have := hsN_le k
    rw [hsN]
    split <;> omega
theorem c_harm (hw : Wf M) (hc : Rc M (S 0)) {Q : Int32 → (Nat → Mx) → Prop} (h : ∀ S', T0 S S' → Rc M (S' 0) → Q (nI (hsN M 64)) S') : pX4_harmlessSwaps S Q := by
  have hs := sumN_lt hw
  have inner : ∀ (ih12 : Int32 → Int32 → Int32 → (Nat → Mx) → Prop) (a : Nat), a < 8 → ∀ d b S', b + d = 8 → T0 S S' → Rc M (S' 0) → (∀ S', T0 S S' → Rc M (S' 0) → ih12 (nI (sumN M)) (nI (hsN M (8 * (a + 1)))) (nI (a + 1)) S') → pX4_harmlessSwaps_21 ih12 Q (d + 1) (nI (sumN M)) (nI (hsN M (8 * a + b))) (nI a) (nI b) S' := by
    intro ih12 a ha d
    induction d with
    | zero =>
      intro b S' hb hT hc' hq
      show pX4_harmlessSwaps_21s ih12 _ Q _ _ _ _ _
      unfold pX4_harmlessSwaps_21s
      have e : 8 * a + b = 8 * (a + 1) := by omega
      rw [nI_1, e]
      exact b_le (a := 8) (by decide) (by omega) (fun _ => hq S' hT hc') (fun z => by omega)
    | succ d ih =>
      intro b S' hb hT hc' hq
      show pX4_harmlessSwaps_21s ih12 (pX4_harmlessSwaps_21 ih12 Q (d + 1)) Q _ _ _ _ _
      unfold pX4_harmlessSwaps_21s pX4_harmlessSwaps_42
      have hse := sumN_lt (Wf_exP hw (a := a) (b := b))
      refine b_le (a := 8) (by decide) (by omega) (fun z => by omega) (fun _ => c_sumEx hw hc' (by omega) (by omega) (fun S2 hT2 hc2 => ?_))
      have hn := ih (b + 1) S2 (by omega) (fun j hj => (hT2 j hj).trans (hT j hj)) hc2 hq
      have e1 : (8 * a + b) / 8 = a := by omega
      have e2 : (8 * a + b) % 8 = b := by omega
      rw [show 8 * a + (b + 1) = (8 * a + b) + 1 by omega, hsN, e1, e2] at hn
      rw [nI_1, nI_1]
      refine b_lt (by omega) (by omega) (fun z => ?_) (fun z => ?_)
      · rw [if_neg (by omega)] at hn
        exact hn
      · rw [if_pos z] at hn
        exact hn
  have outer : ∀ d a S', a + d = 8 → T0 S S' → Rc M (S' 0) → pX4_harmlessSwaps_12 Q (d + 1) (nI (sumN M)) (nI (hsN M (8 * a))) (nI a) S' := by
    intro d
    induction d with
    | zero =>
      intro a S' ha hT hc'
      have e : a = 8 := by omega
      subst e
      show pX4_harmlessSwaps_12s _ Q _ _ _ _
      unfold pX4_harmlessSwaps_12s
      exact b_le (a := 8) (by decide) (by decide) (fun _ => h S' hT hc') (fun z => by omega)
    | succ d ih =>
      intro a S' ha hT hc'
      show pX4_harmlessSwaps_12s (pX4_harmlessSwaps_12 Q (d + 1)) Q _ _ _ _
      unfold pX4_harmlessSwaps_12s
      exact b_le (a := 8) (by decide) (by omega) (fun z => by omega) (fun _ => ⟨_, inner (pX4_harmlessSwaps_12 Q (d + 1)) a (by omega) 8 0 S' (by omega) hT hc' (fun S2 hT2 hc2 => ih (a + 1) S2 (by omega) hT2 hc2)⟩)
  unfold pX4_harmlessSwaps
  exact c_sum hw hc ⟨_, outer 8 0 S (by omega) T0.rfl hc⟩
theorem m_noWorse (hw : Wf M) (hm : Rm M (μ 0)) {a b : Nat} (ha : a < 2 ^ 31) (hb : b < 2 ^ 31) {Q : Int32 → Mx → Prop} (h1 : sumN (exP M a b) ≤ sumN M → ∀ μ', Fr0 μ μ' → Rm M (μ' 0) → Q 1 μ') (h0 : sumN M < sumN (exP M a b) → ∀ μ', Fr0 μ μ' → Rm M (μ' 0) → Q 0 μ') : pX5_isNoWorse μ (nI a) (nI b) Q := by
  have h8 := hw.1
  have hs := sumN_lt hw
  unfold pX5_isNoWorse pX5_isNoWorse_16
  refine m_isPiece hm h8 (fun i hi e => ?_) (fun o => t0 (h1 ?_ μ Fr0.rfl hm))
  · have ea : a = i := (nI_eq ha (by omega)).mp e
    subst ea
    refine t1 (m_isPiece hm h8 (fun j hj e => ?_) (fun o => t0' (h1 ?_ μ Fr0.rfl hm)))
    · have eb : b = j := (nI_eq hb (by omega)).mp e
      subst eb
      have hwe := Wf_ex hw hi hj
      have hse := sumN_lt hwe
      rw [exP_y hi hj] at h1 h0
      have fin2 : ∀ (y : Int32) (υ : Mx), Fr0 μ υ → Rm (exN M a b) (υ 0) → (y = 0 ∨ y = 1) → (∀ μ', Fr0 μ μ' → Rm M (μ' 0) → Q y μ') → pX5_isNoWorse_42 Q (nI a) (nI b) y υ := by
        intro y υ hf hυ hy hq
        unfold pX5_isNoWorse_42
        refine m_ex hwe hυ rfl rfl (by rw [exN_ne (by decide)]; exact hi) (by rw [exN_ne (by decide)]; exact hj) (fun μ2 hm2 hf2 => ⟨hy, hq μ2 (Fr0.tr hf hf2) ?_⟩)
        rw [exN_inv] at hm2
        exact hm2
      refine t1' (m_sum hw hm (m_ex hw hm rfl rfl hi hj (fun μ1 hm1 hf1 => m_sum hwe hm1 (b_lt (by omega) (by omega) (fun z => fin2 0 μ1 hf1 hm1 (Or.inl rfl) (h0 z)) (fun z => fin2 1 μ1 hf1 hm1 (Or.inr rfl) (h1 z))))))
    · unfold exP
      rw [if_neg (fun z => o b z.2 rfl)]
      exact Nat.le_refl _
  · unfold exP
    rw [if_neg (fun z => o a z.1 rfl)]
    exact Nat.le_refl _
def pw (q : Int32) : Nat → Int64
  | 0 => 1
  | k + 1 => pw q k * q.toInt64
theorem c_power {q : Int32} {n : Nat} (hn : n ≤ 10) {Q : Int64 → Prop} (h : Q (pw q n)) : pX4_power q (nI n) Q := by
  have key : ∀ d i, i + d = n → pX4_power_5 Q (d + 1) q (nI n) (pw q i) (nI i) := by
    intro d
    induction d with
    | zero =>
      intro i hi
      have e : i = n := by omega
      subst e
      show pX4_power_5s _ Q _ _ _ _
      unfold pX4_power_5s
      exact b_le (by omega) (by omega) (fun _ => h) (fun z => by omega)
    | succ d ih =>
      intro i hi
      show pX4_power_5s (pX4_power_5 Q (d + 1)) Q _ _ _ _
      unfold pX4_power_5s
      refine b_le (by omega) (by omega) (fun z => by omega) (fun _ => ?_)
      intro v e
      subst e
      rw [nI_1]
      exact ih (i + 1) (by omega)
  exact ⟨_, key n 0 (by omega)⟩
def red : Nat → Nat → Nat → Nat × Nat
  | 0, a, b => (a, b)
  | f + 1, a, b => if b ≤ 1 then (a, b) else if a % 2 = 0 then red f (a / 2) (b / 2) else (a, b)
theorem red_gcd : ∀ g, g < 65 → red 6 g 64 = (g / Nat.gcd 64 g, 64 / Nat.gcd 64 g) := by decide +kernel
theorem rem2 {a : Nat} (h : a < 2 ^ 31) : nI a - nI a / 2 * 2 = nI (a % 2) := remL 2 rfl h (by decide) (by decide)
theorem c_red {x1 x2 : Int32} {Q : Int64 → (Nat → Mx) → Prop} : ∀ f a b, a ≤ 64 → b ≤ 64 → b ≤ 2 ^ f → pX4_odds_60 Q x1 x2 (nI (red f a b).1) (nI (red f a b).2) S → pX4_odds_35 Q (f + 1) x1 x2 (nI a) (nI b) S := by
  intro f
  induction f with
  | zero =>
    intro a b ha hb hf h
    show pX4_odds_35s _ Q _ _ _ _ _
    unfold pX4_odds_35s
    exact b_le (b := 1) (by omega) (by decide) (fun _ => h) (fun z => by omega)
  | succ f ih =>
    intro a b ha hb hf h
    show pX4_odds_35s (pX4_odds_35 Q (f + 1)) Q _ _ _ _ _
    unfold pX4_odds_35s
    rw [red] at h
    rw [rem2 (by omega)]
    refine b_le (b := 1) (by omega) (by decide) (fun z => ?_) (fun z => b_eq' (b := 0) (by omega) (by decide) (fun y => ?_) (fun y => ?_))
    · rw [if_pos z] at h
      exact h
    · rw [if_neg (by omega), if_pos y] at h
      intro v50 e50 v55 e55
      rw [div2 (by omega)] at e50 e55
      subst e50 e55
      refine ih (a / 2) (b / 2) (by omega) (by omega) ?_ h
      rw [Nat.pow_succ] at hf
      omega
    · rw [if_neg (by omega), if_neg y] at h
      exact h
theorem m_pow {n w g d : Nat} (hn : n ≤ 10) (hw : w < 2) (hg : g ≤ 64) (hd : d ≤ 64) (hd0 : 0 < d) {Q : Int64 → Mx → Prop} (h : Q (pw (nI (if w = 0 then g / d else 64 / d)) n) μ) : ∃ m, pX5_odds_111 Q m (nI n) (nI w) 64 (nI g) (nI d) 1 0 μ := by
  have e64 : (64 : Int32) / nI d = nI (64 / d) := pk_div (a := 64) (by decide) hd0 (by omega)
  have eg : nI g / nI d = nI (g / d) := pk_div (by omega) hd0 (by omega)
  have key : ∀ r i, i + r = n → pX5_odds_111 Q (r + 1) (nI n) (nI w) 64 (nI g) (nI d) (pw (nI (if w = 0 then g / d else 64 / d)) i) (nI i) μ := by
    intro r
    induction r with
    | zero =>
      intro i hi
      have e : i = n := by omega
      subst e
      show pX5_odds_111s _ Q _ _ _ _ _ _ _ _
      unfold pX5_odds_111s
      exact b_le (by omega) (by omega) (fun _ => h) (fun z => by omega)
    | succ r ih =>
      intro i hi
      show pX5_odds_111s (pX5_odds_111 Q (r + 1)) Q _ _ _ _ _ _ _ _
      unfold pX5_odds_111s pX5_odds_129
      rw [e64, eg, nI_1]
      have hn0 := nI_ne0 hd0 (show d < 2 ^ 31 by omega)
      have hn := ih (i + 1) (by omega)
      rw [pw] at hn
      refine b_le (by omega) (by omega) (fun z => by omega) (fun _ => b_eq' (b := 0) (by omega) (by decide) (fun z => ⟨hn0, fun v e => ?_⟩) (fun z => ⟨hn0, fun v e => ?_⟩))
      · rw [e]
        have ez : nI (g / d) = nI (if w = 0 then g / d else 64 / d) := by rw [if_pos z]
        rw [ez]
        exact hn
      · rw [e]
        have ez : nI (64 / d) = nI (if w = 0 then g / d else 64 / d) := by rw [if_neg z]
        rw [ez]
        exact hn
  exact ⟨_, key n 0 (by omega)⟩
theorem m_gcd {x1 x2 x3 x4 : Int32} {Q : Int64 → Mx → Prop} : ∀ f b o, o ≤ f → b ≤ 64 → o ≤ 64 → (∃ m, pX5_odds_111 Q m x1 x2 x3 x4 (nI (Nat.gcd b o)) 1 0 μ) → pX5_odds_82 Q (f + 1) x1 x2 x3 x4 (nI b) (nI o) μ := by
  intro f
  induction f with
  | zero =>
    intro b o ho hb ho2 h
    have e : o = 0 := Nat.le_zero.mp ho
    subst e
    show pX5_odds_82s _ Q _ _ _ _ _ _ _
    unfold pX5_odds_82s
    rw [Nat.gcd_zero_right] at h
    exact t0 h
  | succ f ih =>
    intro b o ho hb ho2 h
    show pX5_odds_82s (pX5_odds_82 Q (f + 1)) Q _ _ _ _ _ _ _
    unfold pX5_odds_82s
    refine b_eq (b := 0) (by omega) (by decide) (fun z => ?_) (fun z => ⟨nI_ne0 (by omega) (by omega), ?_⟩)
    · subst z
      rw [Nat.gcd_zero_right] at h
      exact h
    · intro v e
      rw [pk_rem (by omega) (by omega) (by omega)] at e
      subst e
      have hlt : b % o < o := Nat.mod_lt _ (by omega)
      refine ih o (b % o) (by omega) ho2 (by omega) ?_
      rw [Nat.gcd_comm, Nat.gcd_rec] at h
      rw [Nat.gcd_comm]
      exact h
theorem ok25 : OK_25 Inv := by
  intro S μ x1 x2 hI
  have hI' := hI
  obtain ⟨M, hw, hc, hm, ho⟩ := hI'
  have G : pX5_odds_19 (fun r1 u1 => ((-1000001 : Int32) - nI 0).toInt64 = r1 ∧ Inv (fS S 0) u1) μ := fin_g hI 0 (by decide) (by decide) (fun u hu => ⟨rfl, hu⟩)
  have F : (∀ {R : Int64 → Mx → Prop}, pX5_odds_19 R μ → pX5_odds μ x1 x2 R) → pX4_odds_19 (fun r0 u0 => pX5_odds μ x1 x2 (fun r1 u1 => r0 = r1 ∧ Inv u0 u1)) S := by
    intro hR
    unfold pX4_odds_19
    exact c_found 0 (by decide) rfl (hR G)
  unfold pX4_odds
  have e10 : (10 : Int32).toInt = 10 := rfl
  rcases in_or 11 (by decide) x1 with ⟨n, hn, e⟩ | ⟨o, hx⟩
  · subst e
    have el : ¬ (10 : Int32) < nI n := by
      rw [show (10 : Int32) = nI 10 from rfl, nI_ltI (by decide) (by omega)]
      omega
    refine ⟨fun y => absurd y (nI_pos (by omega)), fun _ => ⟨fun y => absurd y el, fun _ => rg (n := 2) (by decide) (by decide) (fun o2 => F (fun hR => ?_)) (fun w hw2 e => ?_)⟩⟩
    · unfold pX5_odds
      exact my (n := 11) (by decide) hn (by decide) (t1 (mn (n := 2) (by decide) o2 (by decide) (t0' hR)))
    · subst e
      refine c_harm hw hc (fun S' hT hc' => ⟨_, c_red 6 (hsN M 64) 64 (hsN_le 64) (by decide) (by decide) ?_⟩)
      have hg := hsN_le (M := M) 64
      have hd0 : 0 < Nat.gcd 64 (hsN M 64) := Nat.gcd_pos_of_pos_left _ (by decide)
      have hd : Nat.gcd 64 (hsN M 64) ≤ 64 := Nat.le_of_dvd (by decide) (Nat.gcd_dvd_left 64 (hsN M 64))
      rw [red_gcd _ (by omega)]
      have mj : ∀ {R : Int64 → Mx → Prop}, (∀ μ', Fr0 μ μ' → Rm M (μ' 0) → R (pw (nI (if w = 0 then hsN M 64 / Nat.gcd 64 (hsN M 64) else 64 / Nat.gcd 64 (hsN M 64))) n) μ') → pX5_odds μ (nI n) (nI w) R := by
        intro R hR
        unfold pX5_odds
        refine my (n := 11) (by decide) hn (by decide) (t1 (my (n := 2) (by decide) hw2 (by decide) (t1' ?_)))
        have key : ∀ d i μ', i + d = 64 → Fr0 μ μ' → Rm M (μ' 0) → pX5_odds_36 R (d + 1) (nI n) (nI w) 64 (nI (hsN M i)) (nI i) μ' := by
          intro d
          induction d with
          | zero =>
            intro i μ' hi hf hm'
            have ei : i = 64 := by omega
            subst ei
            show pX5_odds_36s _ R _ _ _ _ _ _
            unfold pX5_odds_36s
            exact b_le (a := 64) (by decide) (by decide) (fun _ => ⟨_, m_gcd 64 64 (hsN M 64) (by omega) (by decide) hg (m_pow (by omega) hw2 hg hd hd0 (hR μ' hf hm'))⟩) (fun z => by omega)
          | succ d ih =>
            intro i μ' hi hf hm'
            show pX5_odds_36s (pX5_odds_36 R (d + 1)) R _ _ _ _ _ _
            unfold pX5_odds_36s pX5_odds_66
            have ed : nI i / 8 = nI (i / 8) := pk_div (d := 8) (by omega) (by decide) (by decide)
            rw [rem8 (by omega), ed]
            refine b_le (a := 64) (by decide) (by omega) (fun z => by omega) (fun _ => m_noWorse hw hm' (by omega) (by omega) (fun z μ2 hf2 hm2 => t1 ?_) (fun z μ2 hf2 hm2 => t0 ?_))
            · intro v e
              have hn := ih (i + 1) μ2 (by omega) (Fr0.tr hf hf2) hm2
              rw [hsN, if_pos z] at hn
              rw [e, nI_1, nI_1]
              exact hn
            · intro v e
              have e0 : nI (hsN M i) + 0 = nI (hsN M i) := nI_add _ 0
              have hn := ih (i + 1) μ2 (by omega) (Fr0.tr hf hf2) hm2
              rw [hsN, if_neg (by omega)] at hn
              rw [e, e0, nI_1]
              exact hn
        exact ⟨_, key 64 0 μ (by omega) Fr0.rfl hm⟩
      unfold pX4_odds_60 pX4_odds_70
      refine b_eq' (b := 0) (by omega) (by decide) (fun z => c_power (by omega) (mj (fun μ' hf hm' => ⟨?_, ho.inv hw hc' hm' hT.fs hf.fm⟩))) (fun z => c_power (by omega) (mj (fun μ' hf hm' => ⟨?_, ho.inv hw hc' hm' hT.fs hf.fm⟩)))
      · rw [if_pos z]
      · rw [if_neg z]
  · have G1 := F (fun hR => by unfold pX5_odds; exact mn (n := 11) (by decide) o (by decide) (t0 hR))
    refine ⟨fun _ => G1, fun y => ⟨fun _ => G1, fun y2 => ?_⟩⟩
    rcases hx with hx | hx
    · exact absurd hx y
    · refine absurd ?_ y2
      rw [Int32.le_iff_toInt_le, nI_toInt (by decide)] at hx
      rw [Int32.lt_iff_toInt_lt, e10]
      omega
end Odds
