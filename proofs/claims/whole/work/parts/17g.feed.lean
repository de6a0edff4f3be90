section Load
variable {M : Nx} {S S' : Nat → Mx} {σ μ μ' : Mx}
/-- the first k left edges told -/
def lfN (M : Nx) (E : Nat → Nat) (k : Nat) : Nx := fun g j => if g = 1 ∧ j < k then E j else M g j
theorem lfN_ne {E : Nat → Nat} {k g : Nat} (h : g ≠ 1) : lfN M E k g = M g := by
  funext j
  unfold lfN
  exact if_neg (fun z => h z.1)
theorem lfN_0 {E : Nat → Nat} : lfN M E 0 = M := by
  funext g j
  unfold lfN
  exact if_neg (fun z => absurd z.2 (by omega))
theorem lfN_s {E : Nat → Nat} {k : Nat} : sn (lfN M E k) 1 k (E k) = lfN M E (k + 1) := by
  funext g j
  unfold sn lfN
  by_cases e : g = 1 ∧ j = k
  · rw [if_pos e, if_pos ⟨e.1, by omega⟩, e.2]
  · rw [if_neg e]
    by_cases e2 : g = 1 ∧ j < k
    · rw [if_pos e2, if_pos ⟨e2.1, by omega⟩]
    · rw [if_neg e2, if_neg (fun z => by
        rcases Nat.lt_or_ge j k with h | h
        · exact e2 ⟨z.1, h⟩
        · exact e ⟨z.1, by omega⟩)]
theorem Wf_lf (hw : Wf M) {E : Nat → Nat} : ∀ k, (∀ j, j < k → E j < 10) → Wf (lfN M E k)
  | 0, _ => by rw [lfN_0]; exact hw
  | k + 1, h => by
    rw [← lfN_s]
    exact Wf_s1 (Wf_lf hw k (fun j hj => h j (by omega))) (h k (by omega))
/-- only the county changes -/
def T0 (S S' : Nat → Mx) : Prop := ∀ k, k ≠ 0 → S' k = S k
theorem T0.rfl : T0 S S := fun _ _ => Eq.refl _
theorem T0.up (h : T0 S S') {u : Mx} : T0 S (va_up S' 0 u) := fun k a => (va_up_ne _ _ a).trans (h k a)
theorem T0.fs (h : T0 S S') : Fs S S' := fun k a _ _ => h k a
theorem ok35 : OK_35 Inv := by
  intro S μ x1 hI
  have hI' := hI
  obtain ⟨M, hw, hc, hm, ho⟩ := hI'
  have h4 := ho.2.2.2
  have h8 := hw.1
  unfold pX4_load
  refine c_wrong h4 (fun o => ⟨fun y => absurd y (by decide), fun _ => c_found 0 (by decide) rfl ?_⟩) (fun s w z hs e h e0 => ⟨fun y => absurd y (by decide), fun _ => c_found 5 (by decide) rfl ?_⟩) (fun s w z hs e h e0 => ⟨fun _ => ?_, fun y => absurd (by decide) y⟩)
  · unfold pX5_load
    exact m_lacks_o o ⟨fun y => absurd y (by decide), fun _ => m_lacks_o o (fin hI 0 (by decide) (by decide))⟩
  · unfold pX5_load
    rw [e]
    exact m_lacks_m hs h e0 ⟨fun y => absurd y (by decide), fun _ => m_lacks_m hs h e0 (fin hI 5 (by decide) (by decide))⟩
  · have h' := h
    obtain ⟨g1, g2, g3, g4, g5, g6, g7⟩ := h'
    have hvs : vp_in (nI s) 4 := vp_in_nI hs (by decide)
    subst e
    obtain ⟨k, hk, hP, hN⟩ := lst (P := fun k => ¬ (k < z ∧ k < M 8 0 ∧ ∃ e, e < 10 ∧ S (s + 6) 0 k = nI e)) z (fun y => by omega)
    have hk8 : k ≤ 8 := by
      rcases Nat.lt_or_ge 8 k with y | y
      · have q := hN 8 y
        exact absurd (fun hh : (8 < z ∧ 8 < M 8 0 ∧ ∃ e, e < 10 ∧ S (s + 6) 0 8 = nI e) => by omega) q
      · exact y
    have hcl : (nI s).toNatClampNeg = s := nI_clamp (by omega)
    have hE : ∀ i, i < k → i < z ∧ i < M 8 0 ∧ (S (s + 6) 0 i).toNatClampNeg < 10 ∧ S (s + 6) 0 i = nI (S (s + 6) 0 i).toNatClampNeg := by
      intro i hi
      have q : i < z ∧ i < M 8 0 ∧ ∃ e, e < 10 ∧ S (s + 6) 0 i = nI e := Classical.byContradiction (fun y => hN i hi y)
      obtain ⟨q1, q2, e, he, qe⟩ := q
      have ec : (S (s + 6) 0 i).toNatClampNeg = e := by rw [qe]; exact nI_clamp (by omega)
      exact ⟨q1, q2, by omega, by rw [ec]; exact qe⟩
    have hwk : ∀ i, i ≤ k → Wf (lfN M (fun j => (S (s + 6) 0 j).toNatClampNeg) i) := fun i hi => Wf_lf hw i (fun j hj => (hE j (by omega)).2.2.1)
    have cj : ∀ {Q : Int32 → (Nat → Mx) → Prop}, (∀ S', T0 S S' → Rc (lfN M (fun j => (S (s + 6) 0 j).toNatClampNeg) k) (S' 0) → Q (nI k) S') → ∃ n, pX4_load_18 Q n (nI s) 0 S := by
      intro Q hq
      have key : ∀ d i S', i + d = k → T0 S S' → Rc (lfN M (fun j => (S (s + 6) 0 j).toNatClampNeg) i) (S' 0) → pX4_load_18 Q (d + 1) (nI s) (nI i) S' := by
        intro d
        induction d with
        | zero =>
          intro i S' hi hT hc'
          have ei : i = k := by omega
          subst ei
          have hq' := hq S' hT hc'
          have en : lfN M (fun j => (S (s + 6) 0 j).toNatClampNeg) i 8 0 = M 8 0 := by rw [lfN_ne (by decide)]
          show pX4_load_18s _ Q _ _ _
          unfold pX4_load_18s pX4_load_85
          rw [hcl, hT (s + 6) (by omega), g5, nI_clamp (show i < 2 ^ 31 by omega)]
          refine ⟨hvs, b_le (by omega) (by omega) (fun y => hq') (fun y => c_has hc' (hwk i (Nat.le_refl i)).1 (fun j hj ej => t1 ⟨hvs, vp_in_nI (by omega) (by decide), c_isEdge (fun e he ee => ?_) (fun o => t0 hq')⟩) (fun o => t0 hq'))⟩
          rw [en] at hj
          have eij : i = j := (nI_eq (by omega) (by omega)).mp ej
          exact absurd ⟨y, by omega, e, he, ee⟩ hP
        | succ d ih =>
          intro i S' hi hT hc'
          obtain ⟨q1, q2, q3, q4⟩ := hE i (by omega)
          have en : lfN M (fun j => (S (s + 6) 0 j).toNatClampNeg) i 8 0 = M 8 0 := by rw [lfN_ne (by decide)]
          show pX4_load_18s (pX4_load_18 Q (d + 1)) Q _ _ _
          unfold pX4_load_18s
          rw [hcl, hT (s + 6) (by omega), g5, nI_clamp (show i < 2 ^ 31 by omega), nI_1]
          refine ⟨hvs, b_le (by omega) (by omega) (fun y => by omega) (fun _ => c_has hc' (hwk i (by omega)).1 (fun j hj ej => t1 ⟨hvs, vp_in_nI (by omega) (by decide), ?_⟩) (fun o => absurd rfl (o i (by omega))))⟩
          have hnx : pX4_load_18 Q (d + 1) (nI s) (nI (i + 1)) (va_up S' 0 (st (S' 0) 1 i (S (s + 6) 0 i))) := by
            refine ih (i + 1) _ (by omega) hT.up ?_
            rw [va_up_self, ← lfN_s]
            have := Rc_s1 hc' (p := i) (v := (S (s + 6) 0 i).toNatClampNeg)
            rw [← q4] at this
            exact this
          rw [q4]
          rw [q4] at hnx
          exact c_y_isEdge q3 (t1 ⟨hvs, vp_in_nI (by omega) (by decide), vp_in_nI (by omega) (by decide), hnx⟩)
      exact ⟨_, key k 0 S (by omega) T0.rfl (by rw [lfN_0]; exact hc)⟩
    have mj : ∀ {Q : Int32 → Mx → Prop}, (∀ μ', Fr0 μ μ' → Rm (lfN M (fun j => (S (s + 6) 0 j).toNatClampNeg) k) (μ' 0) → Q (nI k) μ') → pX5_load μ (nI s) Q := by
      intro Q hq
      unfold pX5_load
      refine m_lacks_g hs h e0 (fun y => absurd y (by decide)) (fun _ => t0 ?_)
      have key : ∀ d i μ', i + d = k → Fr0 μ μ' → Rm (lfN M (fun j => (S (s + 6) 0 j).toNatClampNeg) i) (μ' 0) → pX5_load_22 Q (d + 1) (nI s) (nI i) μ' := by
        intro d
        induction d with
        | zero =>
          intro i μ' hi hT hm'
          have ei : i = k := by omega
          subst ei
          have hq' := hq μ' hT hm'
          have en : lfN M (fun j => (S (s + 6) 0 j).toNatClampNeg) i 8 0 = M 8 0 := by rw [lfN_ne (by decide)]
          show pX5_load_22s _ Q _ _ _
          unfold pX5_load_22s pX5_load_84
          rw [hcl, hT 18 (by decide), hT 19 (by decide), g6]
          refine ⟨hvs, b_le (by omega) (by omega) (fun y => hq') (fun y => m_isPiece hm' (hwk i (Nat.le_refl i)).1 (fun j hj ej => t1 ?_) (fun o => t0 hq'))⟩
          rw [en] at hj
          have eij : i = j := (nI_eq (by omega) (by omega)).mp ej
          rw [at40, nI_clamp (show 40 * s + i < 2 ^ 31 by omega), g7 i (by omega)]
          refine ⟨vp_in_nI (by omega) (by decide), m_n_isEdge (fun e he ee => ?_) (t0 hq')⟩
          exact absurd ⟨y, by omega, e, he, ee⟩ hP
        | succ d ih =>
          intro i μ' hi hT hm'
          obtain ⟨q1, q2, q3, q4⟩ := hE i (by omega)
          have en : lfN M (fun j => (S (s + 6) 0 j).toNatClampNeg) i 8 0 = M 8 0 := by rw [lfN_ne (by decide)]
          show pX5_load_22s (pX5_load_22 Q (d + 1)) Q _ _ _
          unfold pX5_load_22s
          rw [hcl, hT 18 (by decide), hT 19 (by decide), g6, at40, nI_clamp (show 40 * s + i < 2 ^ 31 by omega), g7 i (by omega), nI_1]
          have hnx : pX5_load_22 Q (d + 1) (nI s) (nI (i + 1)) (st μ' 0 (19 + 5 * i + 1) (S (s + 6) 0 i)) := by
            refine ih (i + 1) _ (by omega) (Fr0.tr hT Fr0.st) ?_
            rw [← lfN_s]
            have := Rm_s1 hm' (p := i) (v := (S (s + 6) 0 i).toNatClampNeg) (by omega)
            rw [← q4] at this
            exact this
          refine ⟨hvs, b_le (by omega) (by omega) (fun y => by omega) (fun _ => m_y_isPiece hm' (hwk i (by omega)).1 (by omega) (t1 ⟨vp_in_nI (by omega) (by decide), ?_⟩))⟩
          have hv : vp_in (nI (40 * s + i)) 160 := vp_in_nI (by omega) (by decide)
          rw [q4]
          rw [q4] at hnx
          refine m_y_isEdge q3 (t1 (m_pieceAt (f := 1) ⟨hv, vp_in_nI (by omega) (by decide), ?_⟩))
          rw [nI_clamp (show 19 + 5 * i + 1 < 2 ^ 31 by omega)]
          exact hnx
      exact ⟨_, key k 0 μ (by omega) Fr0.rfl (by rw [lfN_0]; exact hm)⟩
    exact cj (fun S' hT hc' => mj (fun μ' hf hm' => ⟨rfl, ho.inv (hwk k (Nat.le_refl k)) hc' hm' hT.fs hf.fm⟩))
/-- byte k of a number -/
def byN (x : Int32) (k : Nat) : Nat := x.toBitVec.toNat / 2 ^ (8 * k) % 256
theorem byN_lt {x : Int32} {k : Nat} : byN x k < 256 := Nat.mod_lt _ (by decide)
theorem by_c (x : Int32) : ∀ k, k < 4 → ((x.toUInt32 >>> ((8 * nI k).toUInt32 &&& Int32.toUInt32 31)).toInt32) &&& 255 = nI (byN x k) := by
  intro k hk
  have hs : ∀ k, k < 4 → ((((8 : Int32) * nI k).toUInt32 &&& Int32.toUInt32 31).toBitVec % 32).toNat = 8 * k := by decide +kernel
  rw [pk_and _ 8 (by decide), pk_ushr x _ (8 * k) (hs k hk)]
  rfl
theorem by_m (x : Int32) : ∀ k, k < 4 → (x >>> ((8 * nI k) &&& 31)) &&& 255 = nI (byN x k) := by
  intro k hk
  have hs : ∀ k, k < 4 → ((((8 : Int32) * nI k) &&& 31).toBitVec.smod 32).toNat = 8 * k := by decide +kernel
  rw [pk_and _ 8 (by decide)]
  have e := pk_shr x _ (8 * k) (hs k hk)
  generalize x >>> ((8 * nI k) &&& 31) = y at e
  congr 1
  unfold byN
  have ey : y.toInt = if 2 * y.toBitVec.toNat < 2 ^ 32 then (y.toBitVec.toNat : Int) else (y.toBitVec.toNat : Int) - 2 ^ 32 := BitVec.toInt_eq_toNat_cond y.toBitVec
  have ex : x.toInt = if 2 * x.toBitVec.toNat < 2 ^ 32 then (x.toBitVec.toNat : Int) else (x.toBitVec.toNat : Int) - 2 ^ 32 := BitVec.toInt_eq_toNat_cond x.toBitVec
  have hy := y.toBitVec.isLt
  have hx := x.toBitVec.isLt
  rw [Int.shiftRight_eq_div_pow] at e
  generalize y.toBitVec.toNat = b at ey hy ⊢
  generalize x.toBitVec.toNat = a at ex hx ⊢
  have z : k = 0 ∨ k = 1 ∨ k = 2 ∨ k = 3 := by omega
  rcases z with z | z | z | z <;> subst z <;> simp only [Nat.mul_zero, Nat.mul_one, Nat.reduceMul, Nat.reducePow] at e ⊢ <;> split at ey <;> split at ex <;> omega
theorem ok27 : OK_27 Inv := by
  intro S μ x1 x2 hI
  have hI' := hI
  obtain ⟨M, hw, hc, hm, h1, h2, ⟨l, hl, a1, a2, a3⟩, h4⟩ := hI'
  have G : pX5_finding μ (-1000001) (fun r1 u1 => (-1000001) - nI 0 = r1 ∧ Inv (fS S 0) u1) := fin hI 0 (by decide) (by decide)
  unfold pX4_feed pX4_feed_10
  refine rg1 (n := 4) (by decide) rfl (fun no => c_found 0 (by decide) rfl ?_) (fun n n1 n2 e => ?_)
  · unfold pX5_feed
    exact m_w1 (n := 4) (by decide) rfl (fun y => absurd y no) (fun _ => t0' G)
  · have hin : In1 4 x2 := ⟨n, n1, n2, e⟩
    subst e
    rw [a1, nI_add]
    have es : ∀ r, nI r + (-1) = nI r - 1 := fun r => (Int32.sub_eq_add_neg (nI r) 1).symm
    have em1 : nI n - 1 = nI (n - 1) := pk_sub (b := 1) n1
    refine b_le (b := 120) (by omega) (by decide) (fun z => ?_) (fun z => c_found 1 (by decide) rfl ?_)
    · have cj : ∀ {Q : Mx → Prop}, (∀ τ : Mx, τ 1 0 = nI (l + n) → (∀ j, j < l → τ 0 j = S 4 0 j) → (∀ j, j < n → τ 0 (l + j) = nI (byN x1 (n - 1 - j))) → Q τ) → pX3_append (S 4) x1 (nI n) Q := by
        intro Q hq
        have key : ∀ r j (τ : Mx), j + r = n → τ 1 0 = nI (l + j) → (∀ k, k < l → τ 0 k = S 4 0 k) → (∀ k, k < j → τ 0 (l + k) = nI (byN x1 (n - 1 - k))) → pX3_append_4 Q (r + 1) x1 (nI r - 1) τ := by
          intro r
          induction r with
          | zero =>
            intro j τ hj b1 b2 b3
            show pX3_append_4s _ Q _ _ _
            unfold pX3_append_4s
            have ej : j = n := by omega
            subst ej
            exact ⟨fun _ => hq τ b1 b2 b3, fun c => absurd (by decide) c⟩
          | succ r ih =>
            intro j τ hj b1 b2 b3
            show pX3_append_4s (pX3_append_4 Q (r + 1)) Q _ _ _
            unfold pX3_append_4s
            have er : nI (r + 1) - 1 = nI r := nI_pred r
            rw [er, es, b1, by_c x1 r (by omega), nI_clamp (show l + j < 2 ^ 31 by omega), st_nf (f := 0) (g := 1) (by decide), b1, nI_1]
            refine ⟨fun c => absurd c (nI_pos (by omega)), fun _ => ⟨vp_in_nI (by omega) (by decide), ih (j + 1) _ (by omega) ?_ (fun k hk => ?_) (fun k hk => ?_)⟩⟩
            · rw [st_at]
              rfl
            · rw [st_nf (by decide), st_off (by omega)]
              exact b2 k hk
            · rw [st_nf (by decide)]
              by_cases ek : k = j
              · subst ek
                rw [st_at, show n - 1 - k = r by omega]
              · rw [st_off (by omega)]
                exact b3 k (by omega)
        unfold pX3_append
        intro v3 e3
        subst e3
        exact ⟨_, key n 0 (S 4) (by omega) a1 (fun _ _ => rfl) (fun k hk => absurd hk (by omega))⟩
      have mj : ∀ {Q : Int32 → Mx → Prop}, (∀ τ : Mx, τ 7 0 = nI (l + n) → (∀ j, j < l → τ 6 j = μ 6 j) → (∀ j, j < n → τ 6 (l + j) = nI (byN x1 (n - 1 - j))) → (∀ f, f ≠ 6 → f ≠ 7 → τ f = μ f) → Q (nI (l + n)) τ) → pX5_feed μ x1 (nI n) Q := by
        intro Q hq
        have key : ∀ r j (τ : Mx), j + r = n → τ 7 0 = nI (l + j) → (∀ k, k < l → τ 6 k = μ 6 k) → (∀ k, k < j → τ 6 (l + k) = nI (byN x1 (n - 1 - k))) → (∀ f, f ≠ 6 → f ≠ 7 → τ f = μ f) → pX5_feed_38 Q (r + 1) x1 (nI r - 1) τ := by
          intro r
          induction r with
          | zero =>
            intro j τ hj b1 b2 b3 b4
            show pX5_feed_38s _ Q _ _ _
            unfold pX5_feed_38s
            have ej : j = n := by omega
            subst ej
            rw [b1]
            exact ⟨fun _ => hq τ b1 b2 b3 b4, fun c => absurd (by decide) c⟩
          | succ r ih =>
            intro j τ hj b1 b2 b3 b4
            show pX5_feed_38s (pX5_feed_38 Q (r + 1)) Q _ _ _
            unfold pX5_feed_38s
            have er : nI (r + 1) - 1 = nI r := nI_pred r
            rw [er, es, b1, by_m x1 r (by omega), nI_clamp (show l + j < 2 ^ 31 by omega), st_nf (f := 6) (g := 7) (by decide), b1, nI_1]
            refine ⟨fun c => absurd c (nI_pos (by omega)), fun _ => ⟨vp_in_nI (by omega) (by decide), ih (j + 1) _ (by omega) ?_ (fun k hk => ?_) (fun k hk => ?_) (fun f f6 f7 => ?_)⟩⟩
            · rw [st_at]
              rfl
            · rw [st_nf (by decide), st_off (by omega)]
              exact b2 k hk
            · rw [st_nf (by decide)]
              by_cases ek : k = j
              · subst ek
                rw [st_at, show n - 1 - k = r by omega]
              · rw [st_off (by omega)]
                exact b3 k (by omega)
            · rw [st_nf f7, st_nf f6]
              exact b4 f f6 f7
        unfold pX5_feed
        refine m_w1 (n := 4) (by decide) rfl (fun _ => t1' ?_) (fun y => absurd hin y)
        rw [a2, nI_add]
        refine b_le (b := 120) (by omega) (by decide) (fun _ => ?_) (fun y => by omega)
        intro v37 e37
        subst e37
        exact ⟨_, key n 0 μ (by omega) a2 (fun _ _ => rfl) (fun k hk => absurd hk (by omega)) (fun _ _ _ => rfl)⟩
      refine cj (fun τ b1 b2 b3 => mj (fun υ d1 d2 d3 d4 => ⟨by rw [va_up_self, b1], M, hw, ?_, ?_, ?_, ?_, ?_, ?_⟩))
      · rw [va_up_ne _ _ (by decide)]; exact hc
      · rw [d4 0 (by decide) (by decide)]; exact hm
      · exact Kp_cg h1 (by rw [va_up_ne _ _ (by decide)]) (by rw [va_up_ne _ _ (by decide)]) (d4 3 (by decide) (by decide)) (d4 1 (by decide) (by decide))
      · exact Fi_cg h2 (by rw [va_up_ne _ _ (by decide)]) (d4 4 (by decide) (by decide))
      · refine ⟨l + n, z, by rw [va_up_self]; exact b1, d1, fun j hj => ?_⟩
        rw [va_up_self]
        by_cases c : j < l
        · rw [b2 j c, d2 j c]
          exact a3 j c
        · refine ⟨byN x1 (n - 1 - (j - l)), byN_lt, ?_, ?_⟩
          · rw [← b3 (j - l) (by omega), show l + (j - l) = j by omega]
          · rw [← d3 (j - l) (by omega), show l + (j - l) = j by omega]
      · exact Sh_cg h4 (fun j hj => va_up_ne _ _ (by omega)) (d4 17 (by decide) (by decide)) (d4 18 (by decide) (by decide)) (d4 19 (by decide) (by decide))
    · unfold pX5_feed
      refine m_w1 (n := 4) (by decide) rfl (fun _ => t1' ?_) (fun y => absurd hin y)
      rw [a2, nI_add]
      exact b_le (b := 120) (by omega) (by decide) (fun y => by omega) (fun _ => fin hI 1 (by decide) (by decide))
end Load
