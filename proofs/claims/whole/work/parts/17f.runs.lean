section Runs
variable {M : Nx} {S S' : Nat → Mx} {σ μ μ' : Mx}
/-- there is no such run -/
def NR (z : Nat) (x y : Int32) : Prop := ∀ f n, f < 2 ^ 31 → n < 2 ^ 31 → x = nI f → y = nI n → z < f + n
theorem c_run {z : Nat} (hz : z ≤ 40) (e : σ 2 0 = nI z) {x y : Int32} {Q : Int32 → Prop} (h1 : ∀ f n, x = nI f → y = nI n → f + n ≤ z → Q 1) (h0 : NR z x y → Q 0) : pX2_hasRun σ x y Q := by
  unfold pX2_hasRun pX2_hasRun_30 pX2_hasRun_31
  rw [e]
  refine ⟨fun c => ⟨Or.inl rfl, h0 (fun f n hf hn e1 e2 => ?_)⟩, fun c => ⟨fun c2 => ⟨Or.inl rfl, h0 (fun f n hf hn e1 e2 => ?_)⟩, fun c2 => ?_⟩⟩
  · rw [e1] at c
    exact absurd c (nI_pos hf)
  · rw [e2] at c2
    exact absurd c2 (nI_pos hn)
  · obtain ⟨f, hf, ef⟩ := nI_of c
    obtain ⟨n, hn, en⟩ := nI_of c2
    have no : z < f + n → NR z x y := by
      intro hl f' n' hf' hn' e1 e2
      have d1 : f = f' := (nI_eq hf hf').mp (ef.symm.trans e1)
      have d2 : n = n' := (nI_eq hn hn').mp (en.symm.trans e2)
      omega
    rw [ef]
    refine b_lt (by omega) hf (fun y2 => ⟨Or.inl rfl, h0 (no (by omega))⟩) (fun y2 => ?_)
    rw [pk_sub y2, en]
    exact b_lt (by omega) hn (fun y3 => ⟨Or.inl rfl, h0 (no (by omega))⟩) (fun y3 => ⟨Or.inr rfl, h1 f n ef en (by omega)⟩)
theorem lg_gt {a b : Nat} (ha : a < 2 ^ 63) (hb : b < 2 ^ 63) : (0 < lg_cmp (lN a) (lN b) ↔ b < a) ∧ (lg_cmp (lN a) (lN b) ≤ 0 ↔ a ≤ b) := by
  have h := pk_lLT hb ha
  have h2 := pk_lEQ ha hb
  unfold lg_cmp
  by_cases c : b < a
  · rw [if_pos (h.mpr c)]
    exact ⟨⟨fun _ => c, fun _ => by decide⟩, ⟨fun y => absurd y (by decide), fun y => by omega⟩⟩
  · rw [if_neg (fun y => c (h.mp y))]
    by_cases c2 : a = b
    · rw [if_pos (h2.mpr c2)]
      exact ⟨⟨fun y => absurd y (by decide), fun y => absurd y c⟩, ⟨fun _ => by omega, fun _ => by decide⟩⟩
    · rw [if_neg (fun y => c2 (h2.mp y))]
      exact ⟨⟨fun y => absurd y (by decide), fun y => absurd y c⟩, ⟨fun _ => by omega, fun _ => by decide⟩⟩
theorem ch_y {f t n a b : Nat} {P R A B : Prop} (ha : a ≤ 40) (hb : b ≤ 40) (h1 : f + n ≤ a) (h2 : t + n ≤ b) (hP : P) (hR : R) (h : A) : (nI f < 0 → B) ∧ (¬ nI f < 0 → ((nI t < 0 → B) ∧ (¬ nI t < 0 → ((nI n < 0 → B) ∧ (¬ nI n < 0 → (P ∧ ((0 < (lg_cmp ((nI f).toInt64 + (nI n).toInt64) ((nI a).toInt64)) → B) ∧ (¬ 0 < (lg_cmp ((nI f).toInt64 + (nI n).toInt64) ((nI a).toInt64)) → (R ∧ (((lg_cmp ((nI t).toInt64 + (nI n).toInt64) ((nI b).toInt64)) ≤ 0 → A) ∧ (¬ (lg_cmp ((nI t).toInt64 + (nI n).toInt64) ((nI b).toInt64)) ≤ 0 → B))))))))))) := by
  rw [nI_l (by omega), nI_l (by omega), nI_l (by omega), nI_l (by omega), nI_l (by omega), lN_add, lN_add]
  have g1 := lg_gt (a := f + n) (b := a) (by omega) (by omega)
  have g2 := lg_gt (a := t + n) (b := b) (by omega) (by omega)
  rw [g1.1, g2.2]
  exact ⟨fun y => absurd y (nI_pos (by omega)), fun _ => ⟨fun y => absurd y (nI_pos (by omega)), fun _ => ⟨fun y => absurd y (nI_pos (by omega)), fun _ => ⟨hP, fun y => by omega, fun _ => ⟨hR, fun _ => h, fun y => absurd h2 y⟩⟩⟩⟩⟩
theorem ch_n {x y v : Int32} {a b : Nat} {P R A B : Prop} (ha : a ≤ 40) (hb : b ≤ 40) (hn : NR a x v ∨ NR b y v) (hP : P) (hR : R) (h : B) : (x < 0 → B) ∧ (¬ x < 0 → ((y < 0 → B) ∧ (¬ y < 0 → ((v < 0 → B) ∧ (¬ v < 0 → (P ∧ ((0 < (lg_cmp (x.toInt64 + v.toInt64) ((nI a).toInt64)) → B) ∧ (¬ 0 < (lg_cmp (x.toInt64 + v.toInt64) ((nI a).toInt64)) → (R ∧ (((lg_cmp (y.toInt64 + v.toInt64) ((nI b).toInt64)) ≤ 0 → A) ∧ (¬ (lg_cmp (y.toInt64 + v.toInt64) ((nI b).toInt64)) ≤ 0 → B))))))))))) := by
  refine ⟨fun _ => h, fun c1 => ⟨fun _ => h, fun c2 => ⟨fun _ => h, fun c3 => ?_⟩⟩⟩
  obtain ⟨f, hf, ef⟩ := nI_of c1
  obtain ⟨t, ht, et⟩ := nI_of c2
  obtain ⟨n, hn', en⟩ := nI_of c3
  rw [ef, et, en, nI_l hf, nI_l hn', nI_l ht, nI_l (by omega), nI_l (by omega), lN_add, lN_add]
  have g1 := lg_gt (a := f + n) (b := a) (by omega) (by omega)
  have g2 := lg_gt (a := t + n) (b := b) (by omega) (by omega)
  rw [g1.1, g2.2]
  refine ⟨hP, fun _ => h, fun y1 => ⟨hR, fun y2 => ?_, fun _ => h⟩⟩
  rcases hn with q | q
  · have := q f n hf hn' ef en
    omega
  · have := q t n ht hn' et en
    omega
theorem at40' (s f k : Nat) : ((40 * nI s) + nI f) + nI k = nI (40 * s + f + k) := by
  rw [at40, nI_add]
theorem m_move {s f t to n : Nat} (hs : s < 4) (ht : t < 4) (h1 : f + n ≤ 40) (h2 : to + n ≤ 40) {Q : Int32 → Mx → Prop} (h : ∀ τ : Mx, (∀ k, k < n → τ 19 (40 * t + to + k) = μ 19 (40 * s + f + k)) → (∀ j, (j < 40 * t + to ∨ 40 * t + to + n ≤ j) → τ 19 j = μ 19 j) → (∀ g, g ≠ 19 → g ≠ 20 → τ g = μ g) → Q (nI n) τ) : ∃ m, pX5_copy_128 Q m (nI s) (nI f) (nI t) (nI to) (nI n) 0 μ := by
  have k2 : ∀ d i (τ : Mx), i + d = n → (∀ k, k < n → τ 20 k = μ 19 (40 * s + f + k)) → (∀ k, k < i → τ 19 (40 * t + to + k) = μ 19 (40 * s + f + k)) → (∀ j, (j < 40 * t + to ∨ 40 * t + to + i ≤ j) → τ 19 j = μ 19 j) → (∀ g, g ≠ 19 → g ≠ 20 → τ g = μ g) → pX5_copy_165 Q (d + 1) (nI t) (nI to) (nI n) (nI i) τ := by
    intro d
    induction d with
    | zero =>
      intro i τ hi a b c e
      show pX5_copy_165s _ Q _ _ _ _ _
      unfold pX5_copy_165s
      have hin : i = n := by omega
      subst hin
      exact b_le (by omega) (by omega) (fun _ => h τ b c e) (fun z => by omega)
    | succ d ih =>
      intro i τ hi a b c e
      show pX5_copy_165s (pX5_copy_165 Q (d + 1)) Q _ _ _ _ _
      unfold pX5_copy_165s
      rw [at40', nI_clamp (show 40 * t + to + i < 2 ^ 31 by omega), nI_clamp (show i < 2 ^ 31 by omega), nI_1]
      refine b_le (by omega) (by omega) (fun z => by omega) (fun _ => ⟨vp_in_nI (by omega) (by decide), vp_in_nI (by omega) (by decide), ih (i + 1) _ (by omega) (fun k hk => ?_) (fun k hk => ?_) (fun j hj => ?_) (fun g g1 g2 => ?_)⟩)
      · rw [st_nf (by decide)]
        exact a k hk
      · by_cases z : k = i
        · subst z
          rw [st_at]
          exact a k (by omega)
        · rw [st_off (by omega)]
          exact b k (by omega)
      · rw [st_off (by omega)]
        exact c j (by omega)
      · rw [st_nf g1]
        exact e g g1 g2
  have k1 : ∀ d i (τ : Mx), i + d = n → (∀ k, k < i → τ 20 k = μ 19 (40 * s + f + k)) → (∀ g, g ≠ 20 → τ g = μ g) → pX5_copy_128 Q (d + 1) (nI s) (nI f) (nI t) (nI to) (nI n) (nI i) τ := by
    intro d
    induction d with
    | zero =>
      intro i τ hi a e
      show pX5_copy_128s _ Q _ _ _ _ _ _ _
      unfold pX5_copy_128s
      have hin : i = n := by omega
      subst hin
      exact b_le (by omega) (by omega) (fun _ => ⟨_, k2 i 0 τ (by omega) a (fun k hk => absurd hk (by omega)) (fun j _ => by rw [e 19 (by decide)]) (fun g _ g2 => e g g2)⟩) (fun z => by omega)
    | succ d ih =>
      intro i τ hi a e
      show pX5_copy_128s (pX5_copy_128 Q (d + 1)) Q _ _ _ _ _ _ _
      unfold pX5_copy_128s
      rw [at40', nI_clamp (show 40 * s + f + i < 2 ^ 31 by omega), nI_clamp (show i < 2 ^ 31 by omega), nI_1]
      refine b_le (by omega) (by omega) (fun z => by omega) (fun _ => ⟨vp_in_nI (by omega) (by decide), vp_in_nI (by omega) (by decide), ih (i + 1) _ (by omega) (fun k hk => ?_) (fun g g2 => ?_)⟩)
      · by_cases z : k = i
        · subst z
          rw [st_at, e 19 (by decide)]
        · rw [st_off z]
          exact a k (by omega)
      · rw [st_nf g2]
        exact e g g2
  exact ⟨_, k1 n 0 μ (by omega) (fun k hk => absurd hk (by omega)) (fun _ _ => rfl)⟩
theorem ok34 : OK_34 Inv := by
  intro S μ x1 x2 x3 x4 x5 hI
  have hI' := hI
  obtain ⟨M, hw, hc, hm, h1, h2, h3, h4⟩ := hI'
  have G : ∀ k, k = 0 → pX5_finding μ (-1000001) (fun r1 u1 => (-1000001) - nI k = r1 ∧ Inv (fS S k) u1) := fun k e => by subst e; exact fin hI 0 (by decide) (by decide)
  have G5 : pX5_finding μ (-1000006) (fun r1 u1 => (-1000001) - nI 5 = r1 ∧ Inv (fS S 5) u1) := fin hI 5 (by decide) (by decide)
  unfold pX4_copy pX4_copy_14 pX4_copy_44 pX4_copy_108
  refine c_isSheet (fun s hs e => t1 ?_) (fun o1 => t0 (c_found 0 (by decide) rfl ?_))
  · refine c_isSheet (fun t ht et => t1' ?_) (fun o1 => t0' (c_found 0 (by decide) rfl ?_))
    · obtain ⟨w, z, g1, g2, g3, g4, g5, g6, g7⟩ := h4 s hs
      obtain ⟨w', z', d1, d2, d3, d4, d5, d6, d7⟩ := h4 t ht
      have ecl : x1.toNatClampNeg = s := by rw [e]; exact nI_clamp (by omega)
      have etl : x3.toNatClampNeg = t := by rw [et]; exact nI_clamp (by omega)
      have hv : vp_in x1 4 := by rw [e]; exact vp_in_nI hs (by decide)
      have hvt : vp_in x3 4 := by rw [et]; exact vp_in_nI ht (by decide)
      have hsh : ∀ {A : Int32 → Prop}, A 1 → pX5_isSheet x1 A := fun h => by rw [e]; exact m_y_isSheet hs h
      have hsht : ∀ {A : Int32 → Prop}, A 1 → pX5_isSheet x3 A := fun h => by rw [et]; exact m_y_isSheet ht h
      rw [ecl, etl, g3, d3]
      refine ⟨hv, b_eq (b := 0) (by omega) (by decide) (fun y => c_found 5 (by decide) rfl ?_) (fun y => ⟨hvt, b_eq' (b := 0) (by omega) (by decide) (fun y' => c_found 5 (by decide) rfl ?_) (fun y' => ⟨hv, hvt, b_eq (by omega) (by omega) (fun ew => ⟨hv, ?_⟩) (fun ew => c_found 2 (by decide) rfl ?_)⟩)⟩)⟩
      · unfold pX5_copy pX5_copy_39
        rw [ecl, etl, g4]
        exact hsh (t1 (hsht (t1' ⟨hv, b_eq (b := 0) (by omega) (by decide) (fun _ => G5) (fun c => absurd y c)⟩)))
      · unfold pX5_copy pX5_copy_39
        rw [ecl, etl, g4, d4]
        exact hsh (t1 (hsht (t1' ⟨hv, b_eq (b := 0) (by omega) (by decide) (fun c => absurd c y) (fun _ => ⟨hvt, b_eq' (b := 0) (by omega) (by decide) (fun _ => G5) (fun c => absurd y' c)⟩)⟩)))
      · have hgo : ∀ {R : Int32 → Mx → Prop}, ((x2 < 0 → (pX5_copy_118 R μ)) ∧ (¬ x2 < 0 → ((x4 < 0 → (pX5_copy_118 R μ)) ∧ (¬ x4 < 0 → ((x5 < 0 → (pX5_copy_118 R μ)) ∧ (¬ x5 < 0 → (vp_in x1 4 ∧ ((0 < (lg_cmp (x2.toInt64 + x5.toInt64) ((nI z).toInt64)) → (pX5_copy_118 R μ)) ∧ (¬ 0 < (lg_cmp (x2.toInt64 + x5.toInt64) ((nI z).toInt64)) → (vp_in x3 4 ∧ (((lg_cmp (x4.toInt64 + x5.toInt64) ((nI z').toInt64)) ≤ 0 → (∃ n, pX5_copy_128 R n x1 x2 x3 x4 x5 0 μ)) ∧ (¬ (lg_cmp (x4.toInt64 + x5.toInt64) ((nI z').toInt64)) ≤ 0 → (pX5_copy_118 R μ))))))))))))) → pX5_copy μ x1 x2 x3 x4 x5 R := by
          intro R hR
          unfold pX5_copy
          rw [ecl, etl, g4, d4, g6, d6]
          exact hsh (t1 (hsht (t1' ⟨hv, b_eq (b := 0) (by omega) (by decide) (fun c => absurd c y) (fun _ => ⟨hvt, b_eq' (b := 0) (by omega) (by decide) (fun c => absurd c y') (fun _ => ⟨hv, hvt, b_eq (by omega) (by omega) (fun _ => hR) (fun c => absurd ew c)⟩)⟩)⟩)))
        refine c_run g2 g5 (fun f n ef en hl => t1 ⟨hvt, c_run d2 d5 (fun to n' eto en' hl' => t1' ⟨hv, hvt, ?_⟩) (fun nr => t0' (c_found 0 (by decide) rfl (hgo (ch_n g2 d2 (Or.inr nr) hv hvt (G 0 rfl)))))⟩) (fun nr => t0 (c_found 0 (by decide) rfl (hgo (ch_n g2 d2 (Or.inl nr) hv hvt (G 0 rfl)))))
        by_cases hbig : n < 2 ^ 31 ∧ n' < 2 ^ 31
        · have enn : n = n' := (nI_eq hbig.1 hbig.2).mp (en.symm.trans en')
          subst enn
          have c2 : x2.toNatClampNeg = f := by rw [ef]; exact nI_clamp (by omega)
          have c4 : x4.toNatClampNeg = to := by rw [eto]; exact nI_clamp (by omega)
          have c5 : x5.toNatClampNeg = n := by rw [en]; exact nI_clamp (by omega)
          rw [c2, c4, c5]
          refine ⟨by rw [ef]; exact nI_pos (by omega), by rw [eto]; exact nI_pos (by omega), by rw [en]; exact nI_pos (by omega), by omega, by omega, hgo ?_⟩
          rw [ef, eto, en]
          refine ch_y g2 d2 hl hl' hv hvt ?_
          rw [e, et]
          refine m_move hs ht (by omega) (by omega) (fun τ q1 q2 q3 => ⟨rfl, M, hw, ?_, ?_, ?_, ?_, ?_, ?_⟩)
          · rw [va_up_ne _ _ (by omega)]; exact hc
          · rw [q3 0 (by decide) (by decide)]; exact hm
          · exact Kp_cg h1 (by rw [va_up_ne _ _ (by omega)]) (by rw [va_up_ne _ _ (by omega)]) (q3 3 (by decide) (by decide)) (q3 1 (by decide) (by decide))
          · exact Fi_cg h2 (by rw [va_up_ne _ _ (by omega)]) (q3 4 (by decide) (by decide))
          · exact Tp_cg h3 (by rw [va_up_ne _ _ (by omega)]) (q3 6 (by decide) (by decide)) (q3 7 (by decide) (by decide))
          · refine Sh_up h4 (s := t) (fun j hj hne => by rw [va_up_ne _ _ (by omega)]) (fun j hj => by rw [q3 17 (by decide) (by decide)]) (fun j hj => by rw [q3 18 (by decide) (by decide)]) (fun j hj => q2 j (by omega)) ⟨w', z', d1, d2, ?_, ?_, ?_, ?_, fun k hk => ?_⟩
            · rw [va_up_self, va_up_ne _ _ (by decide)]; exact d3
            · rw [q3 17 (by decide) (by decide)]; exact d4
            · rw [va_up_self, va_up_ne _ _ (by decide)]; exact d5
            · rw [q3 18 (by decide) (by decide)]; exact d6
            · rw [va_up_self, va_up_self]
              by_cases z1 : to ≤ k ∧ k < to + n
              · rw [pk_cpy_in z1.1 z1.2, show 40 * t + k = 40 * t + to + (k - to) by omega, q1 (k - to) (by omega), show 40 * s + f + (k - to) = 40 * s + (f + (k - to)) by omega]
                exact g7 _ (by omega)
              · rw [pk_cpy_out (by omega), q2 _ (by omega)]
                exact d7 k hk
        · omega
      · unfold pX5_copy
        rw [ecl, etl, g4, d4]
        exact hsh (t1 (hsht (t1' ⟨hv, b_eq (b := 0) (by omega) (by decide) (fun c => absurd c y) (fun _ => ⟨hvt, b_eq' (b := 0) (by omega) (by decide) (fun c => absurd c y') (fun _ => ⟨hv, hvt, b_eq (by omega) (by omega) (fun c => absurd c ew) (fun _ => fin hI 2 (by decide) (by decide))⟩)⟩)⟩)))
    · unfold pX5_copy
      rw [e]
      exact m_y_isSheet hs (t1 (m_n_isSheet o1 (t0' (G 0 rfl))))
  · unfold pX5_copy
    exact m_n_isSheet o1 (t0 (G 0 rfl))
theorem ok36 : OK_36 Inv := by
  intro S μ x1 hI
  have hI' := hI
  obtain ⟨M, hw, hc, hm, h1, h2, h3, h4⟩ := hI'
  have h8 := hw.1
  unfold pX4_judge
  refine c_wrong h4 (fun o => ⟨fun y => absurd y (by decide), fun _ => c_found 0 (by decide) rfl ?_⟩) (fun s w z hs e h e0 => ⟨fun y => absurd y (by decide), fun _ => c_found 5 (by decide) rfl ?_⟩) (fun s w z hs e h e0 => ⟨fun _ => ?_, fun y => absurd (by decide) y⟩)
  · unfold pX5_judge
    exact m_lacks_o o ⟨fun y => absurd y (by decide), fun _ => m_lacks_o o (fin hI 0 (by decide) (by decide))⟩
  · unfold pX5_judge
    rw [e]
    exact m_lacks_m hs h e0 ⟨fun y => absurd y (by decide), fun _ => m_lacks_m hs h e0 (fin hI 5 (by decide) (by decide))⟩
  · have h' := h
    obtain ⟨g1, g2, g3, g4, g5, g6, g7⟩ := h'
    have hvs : vp_in (nI s) 4 := vp_in_nI hs (by decide)
    subst e
    obtain ⟨k, hk, hP, hN⟩ := lst (P := fun k => ¬ (k < z ∧ k < M 8 0 ∧ S (s + 6) 0 k = nI (M 4 k))) z (fun y => by omega)
    have hk8 : k ≤ 8 := by
      rcases Nat.lt_or_ge 8 k with y | y
      · have q := hN 8 y
        exact absurd (fun hh : (8 < z ∧ 8 < M 8 0 ∧ S (s + 6) 0 8 = nI (M 4 8)) => by omega) q
      · exact y
    have hcl : (nI s).toNatClampNeg = s := nI_clamp (by omega)
    have cj : ∀ {Q : Int32 → (Nat → Mx) → Prop}, Q (if k = z then 0 else nI (1 + k)) S → ∃ n, pX4_judge_18 Q n (nI s) 0 S := by
      intro Q hq
      have key : ∀ d i, i + d = k → pX4_judge_18 Q (d + 1) (nI s) (nI i) S := by
        intro d
        induction d with
        | zero =>
          intro i hi
          have ei : i = k := by omega
          subst ei
          show pX4_judge_18s _ Q _ _ _
          unfold pX4_judge_18s pX4_judge_65
          have e1 : (1 : Int32) + nI i = nI (1 + i) := nI_add 1 i
          rw [hcl, g5, e1, nI_clamp (show i < 2 ^ 31 by omega)]
          refine ⟨hvs, b_le (by omega) (by omega) (fun y => ?_) (fun y => ?_)⟩
          · rw [if_pos (by omega)] at hq; exact hq
          · rw [if_neg (by omega)] at hq
            refine c_has hc h8 (fun j hj ej => t1 ?_) (fun o => t0 hq)
            have eij : i = j := (nI_eq (by omega) (by omega)).mp ej
            subst eij
            rw [(hc.2.2.2.1 i hj).2.2.2.2]
            refine ⟨vp_in_nI (by omega) (by decide), hvs, vp_in_nI (by omega) (by decide), fun c => ?_, fun _ => hq⟩
            exact absurd ⟨y, hj, c.symm⟩ hP
        | succ d ih =>
          intro i hi
          have q : i < z ∧ i < M 8 0 ∧ S (s + 6) 0 i = nI (M 4 i) := Classical.byContradiction (fun y => hN i (by omega) y)
          show pX4_judge_18s (pX4_judge_18 Q (d + 1)) Q _ _ _
          unfold pX4_judge_18s
          rw [hcl, g5, nI_clamp (show i < 2 ^ 31 by omega), q.2.2, (hc.2.2.2.1 i q.2.1).2.2.2.2, nI_1]
          refine ⟨hvs, b_le (by omega) (by omega) (fun y => by omega) (fun _ => c_has hc h8 (fun j hj ej => t1 ⟨vp_in_nI (by omega) (by decide), hvs, vp_in_nI (by omega) (by decide), fun _ => ih (i + 1) (by omega), fun c => absurd rfl c⟩) (fun o => absurd rfl (o i q.2.1)))⟩
      exact ⟨_, key k 0 (by omega)⟩
    have mj : ∀ {Q : Int32 → Mx → Prop}, Q (if k = z then 0 else nI (1 + k)) μ → pX5_judge μ (nI s) Q := by
      intro Q hq
      unfold pX5_judge
      refine m_lacks_g hs h e0 (fun y => absurd y (by decide)) (fun _ => t0 ?_)
      have e69 : pX5_judge_69 Q (nI s) (nI k) μ := by
        unfold pX5_judge_69 pX5_judge_86
        have e1 : (1 : Int32) + nI k = nI (1 + k) := nI_add 1 k
        rw [hcl, g6, e1]
        refine ⟨hvs, b_eq' (by omega) (by omega) (fun y => ?_) (fun y => ?_)⟩
        · rw [if_pos y] at hq; exact hq
        · rw [if_neg y] at hq; exact hq
      have key : ∀ d i, i + d = k → pX5_judge_22 Q (d + 1) (nI s) (nI i) μ := by
        intro d
        induction d with
        | zero =>
          intro i hi
          have ei : i = k := by omega
          subst ei
          show pX5_judge_22s _ Q _ _ _
          unfold pX5_judge_22s
          rw [hcl, g6]
          refine ⟨hvs, b_le (by omega) (by omega) (fun y => e69) (fun y => ?_)⟩
          refine m_isPiece hm h8 (fun j hj ej => t1 ?_) (fun o => t0 e69)
          have eij : i = j := (nI_eq (by omega) (by omega)).mp ej
          subst eij
          rw [at40, nI_clamp (show 40 * s + i < 2 ^ 31 by omega), m_at59 (by omega), hm.2.2.2.2.2.2 i hj, g7 i (by omega)]
          refine ⟨vp_in_nI (by omega) (by decide), m_in59 (by omega), fun _ => e69, fun c => ?_⟩
          exact absurd ⟨y, hj, c⟩ hP
        | succ d ih =>
          intro i hi
          have q : i < z ∧ i < M 8 0 ∧ S (s + 6) 0 i = nI (M 4 i) := Classical.byContradiction (fun y => hN i (by omega) y)
          show pX5_judge_22s (pX5_judge_22 Q (d + 1)) Q _ _ _
          unfold pX5_judge_22s
          rw [hcl, g6, at40, nI_clamp (show 40 * s + i < 2 ^ 31 by omega), m_at59 (by omega), hm.2.2.2.2.2.2 i q.2.1, g7 i (by omega), q.2.2, nI_1]
          refine ⟨hvs, b_le (by omega) (by omega) (fun y => by omega) (fun _ => m_y_isPiece hm h8 q.2.1 (t1 ⟨vp_in_nI (by omega) (by decide), m_in59 (by omega), fun c => absurd rfl c, fun _ => ih (i + 1) (by omega)⟩))⟩
      exact ⟨_, key k 0 (by omega)⟩
    exact cj (mj ⟨rfl, hI⟩)
end Runs
