section More
variable {M : Nx} {S S' : Nat → Mx} {σ μ μ' : Mx}
theorem Kp_cg (h : Kp S μ) (a : S' 5 1 = S 5 1) (b : S' 1 = S 1) (c : μ' 3 = μ 3) (d : μ' 1 = μ 1) : Kp S' μ' := by
  unfold Kp
  rw [a, b, c, d]
  exact h
theorem Fi_cg (h : Fi S μ) (a : S' 5 0 = S 5 0) (b : μ' 4 = μ 4) : Fi S' μ' := by
  unfold Fi
  rw [a, b]
  exact h
theorem Tp_cg (h : Tp S μ) (a : S' 4 = S 4) (b : μ' 6 = μ 6) (c : μ' 7 = μ 7) : Tp S' μ' := by
  unfold Tp
  rw [a, b, c]
  exact h
theorem Sh_cg (h : Sh S μ) (a : ∀ j, j < 4 → S' (j + 6) = S (j + 6)) (b : μ' 17 = μ 17) (c : μ' 18 = μ 18) (d : μ' 19 = μ 19) : Sh S' μ' := by
  intro j hj
  obtain ⟨w, z, k⟩ := h j hj
  refine ⟨w, z, ?_⟩
  unfold Sh1
  rw [a j hj, b, c, d]
  exact k
theorem nI_bv (x : Int32) : nI x.toBitVec.toNat = x := by
  refine Int32.toBitVec_inj.mp (BitVec.eq_of_toNat_eq ?_)
  simp [nI]
theorem ok26 : OK_26 Inv := by
  intro S μ x1 hI
  obtain ⟨M, hw, hc, hm, ho⟩ := hI
  unfold pX4_seed
  intro v e
  rw [hc.2.2.1] at e
  unfold pX5_seed pX5_become
  have hv : vp_in 2 67 := v_2 (by decide) (by decide)
  refine ⟨hv, ?_⟩
  intro v6 e6
  rw [m_2, hm.2.2.1] at e6
  have h1 := Rc_s10 hc (v := x1.toBitVec.toNat)
  have h2 := Rm_s10 hm (v := x1.toBitVec.toNat)
  rw [nI_bv] at h1 h2
  rw [m_2]
  exact ⟨hv, by rw [e, e6], ho.inv (Wf_s10 hw x1.toBitVec.isLt) (by rw [va_up_self]; exact h1) h2 Fs.u0 Fr0.st.fm⟩
theorem ok28 : OK_28 Inv := by
  intro S μ hI
  obtain ⟨M, hw, hc, hm, h1, h2, ⟨l, hl, a1, a2, a3⟩, h4⟩ := hI
  unfold pX4_wipe
  intro v e
  unfold pX5_wipe
  intro v4 e4
  refine ⟨by rw [e, e4, a1, a2], M, hw, ?_, ?_, ?_, ?_, ?_, ?_⟩
  · rw [va_up_ne _ _ (by decide)]; exact hc
  · rw [st_nf (by decide)]; exact hm
  · exact Kp_cg h1 (by rw [va_up_ne _ _ (by decide)]) (by rw [va_up_ne _ _ (by decide)]) (st_nf (by decide)) (st_nf (by decide))
  · exact Fi_cg h2 (by rw [va_up_ne _ _ (by decide)]) (st_nf (by decide))
  · exact ⟨0, by decide, by rw [va_up_self, st_at]; rfl, st_at, fun j hj => absurd hj (by omega)⟩
  · exact Sh_cg h4 (fun j hj => va_up_ne _ _ (by omega)) (st_nf (by decide)) (st_nf (by decide)) (st_nf (by decide))
theorem ok39 : OK_39 Inv := by
  intro S μ hI
  obtain ⟨M, hw, hc, hm, h1, h2, h3, h4⟩ := hI
  have G : Inv (va_up S 5 (st (S 5) 1 0 0)) (st μ 3 0 0) := by
    refine ⟨M, hw, ?_, ?_, ?_, ?_, ?_, ?_⟩
    · rw [va_up_ne _ _ (by decide)]; exact hc
    · rw [st_nf (by decide)]; exact hm
    · exact Or.inl ⟨by rw [va_up_self, st_at], st_at⟩
    · exact Fi_cg h2 (by rw [va_up_self, st_nf (by decide)]) (st_nf (by decide))
    · exact Tp_cg h3 (va_up_ne _ _ (by decide)) (st_nf (by decide)) (st_nf (by decide))
    · exact Sh_cg h4 (fun j hj => va_up_ne _ _ (by omega)) (st_nf (by decide)) (st_nf (by decide)) (st_nf (by decide))
  unfold pX4_tear pX4_tear_12 pX5_tear pX5_tear_12
  rcases h1 with ⟨a, b⟩ | ⟨a, b, _⟩
  · rw [a, b]
    exact t0 (t0 ⟨rfl, G⟩)
  · rw [a, b]
    exact t1 (t1 ⟨rfl, G⟩)
theorem ok37 : OK_37 Inv := by
  intro S μ hI
  obtain ⟨M, hw, hc, hm, h1, h2, h3, h4⟩ := hI
  unfold pX4_image pX1_takeFrom pX5_image
  refine cp_01 (fun τ g1 g2 => ⟨rfl, M, hw, ?_, ?_, ?_, ?_, ?_, ?_⟩)
  · rw [va_up_ne _ _ (by decide), va_up_ne _ _ (by decide)]; exact hc
  · rw [st_nf (by decide), g2 0 (by decide)]; exact hm
  · refine Or.inr ⟨by rw [va_up_self, st_at], st_at, M, hw, ?_, ?_⟩
    · rw [va_up_ne _ _ (by decide), va_up_self]; exact hc
    · rw [st_nf (by decide)]; exact Rm_cg hw.1 g1 hm
  · exact Fi_cg h2 (by rw [va_up_self, st_nf (by decide), va_up_ne _ _ (by decide)]) (by rw [st_nf (by decide), g2 4 (by decide)])
  · exact Tp_cg h3 (by rw [va_up_ne _ _ (by decide), va_up_ne _ _ (by decide)]) (by rw [st_nf (by decide), g2 6 (by decide)]) (by rw [st_nf (by decide), g2 7 (by decide)])
  · exact Sh_cg h4 (fun j hj => by rw [va_up_ne _ _ (by omega), va_up_ne _ _ (by omega)]) (by rw [st_nf (by decide), g2 17 (by decide)]) (by rw [st_nf (by decide), g2 18 (by decide)]) (by rw [st_nf (by decide), g2 19 (by decide)])
theorem ok38 : OK_38 Inv := by
  intro S μ hI
  have hI' := hI
  obtain ⟨M, hw, hc, hm, ho⟩ := hI'
  have h1 := ho.1
  unfold pX4_undo pX1_takeFrom
  rcases h1 with ⟨a, b⟩ | ⟨a, b, K, kw, kc, km⟩
  · rw [a]
    refine t0' (c_found 3 (by decide) rfl ?_)
    unfold pX5_undo
    rw [b]
    exact t0' (fin hI 3 (by decide) (by decide))
  · rw [a]
    refine t1' ?_
    unfold pX5_undo
    rw [b]
    refine t1' (cp_10 (fun τ g1 g2 => ⟨v_0 (by decide) (by decide), ?_, ?_⟩))
    · rw [va_up_self, m_0, kc.2.1, g1 0 (by decide), km.1]
    · exact ho.inv kw (by rw [va_up_self]; exact kc) (Rm_cg kw.1 g1 km) Fs.u0 (fun f a _ _ => g2 f a)
theorem sw8 {w : Nat} (h : w < 8) {A0 A1 A2 A3 A4 A5 A6 A7 A8 : Prop} (h0 : w = 0 → A0) (h1 : w = 1 → A1) (h2 : w = 2 → A2) (h3 : w = 3 → A3) (h4 : w = 4 → A4) (h5 : w = 5 → A5) (h6 : w = 6 → A6) (h7 : w = 7 → A7) : (nI w = 0 → A0) ∧ (nI w = 1 → A1) ∧ (nI w = 2 → A2) ∧ (nI w = 3 → A3) ∧ (nI w = 4 → A4) ∧ (nI w = 5 → A5) ∧ (nI w = 6 → A6) ∧ (nI w = 7 → A7) ∧ (¬ nI w = 0 → ¬ nI w = 1 → ¬ nI w = 2 → ¬ nI w = 3 → ¬ nI w = 4 → ¬ nI w = 5 → ¬ nI w = 6 → ¬ nI w = 7 → A8) := by
  have e : ∀ j : Nat, j < 8 → (nI w = nI j ↔ w = j) := fun j hj => nI_eq (by omega) (by omega)
  refine ⟨fun c => h0 ((e 0 (by decide)).mp c), fun c => h1 ((e 1 (by decide)).mp c), fun c => h2 ((e 2 (by decide)).mp c), fun c => h3 ((e 3 (by decide)).mp c), fun c => h4 ((e 4 (by decide)).mp c), fun c => h5 ((e 5 (by decide)).mp c), fun c => h6 ((e 6 (by decide)).mp c), fun c => h7 ((e 7 (by decide)).mp c), fun c0 c1 c2 c3 c4 c5 c6 c7 => ?_⟩
  have z : w = 0 ∨ w = 1 ∨ w = 2 ∨ w = 3 ∨ w = 4 ∨ w = 5 ∨ w = 6 ∨ w = 7 := by omega
  rcases z with z | z | z | z | z | z | z | z <;> subst z
  · exact absurd rfl c0
  · exact absurd rfl c1
  · exact absurd rfl c2
  · exact absurd rfl c3
  · exact absurd rfl c4
  · exact absurd rfl c5
  · exact absurd rfl c6
  · exact absurd rfl c7
theorem sw8o {x : Int32} (ho : Out 8 x) {A0 A1 A2 A3 A4 A5 A6 A7 A8 : Prop} (h : A8) : (x = 0 → A0) ∧ (x = 1 → A1) ∧ (x = 2 → A2) ∧ (x = 3 → A3) ∧ (x = 4 → A4) ∧ (x = 5 → A5) ∧ (x = 6 → A6) ∧ (x = 7 → A7) ∧ (¬ x = 0 → ¬ x = 1 → ¬ x = 2 → ¬ x = 3 → ¬ x = 4 → ¬ x = 5 → ¬ x = 6 → ¬ x = 7 → A8) :=
  ⟨fun c => absurd c (ho 0 (by decide)), fun c => absurd c (ho 1 (by decide)), fun c => absurd c (ho 2 (by decide)), fun c => absurd c (ho 3 (by decide)), fun c => absurd c (ho 4 (by decide)), fun c => absurd c (ho 5 (by decide)), fun c => absurd c (ho 6 (by decide)), fun c => absurd c (ho 7 (by decide)), fun _ _ _ _ _ _ _ _ => h⟩
theorem p256 {n : Nat} (h : n ≤ 8) : 2 ^ n ≤ 256 := Nat.le_trans (Nat.pow_le_pow_right (by decide) h) (by decide)
theorem ok40 : OK_40 Inv := by
  intro S μ x1 hI
  have hI' := hI
  obtain ⟨M, hw, hc, hm, ho⟩ := hI'
  have h8 := hw.1
  obtain ⟨l, hl, a1, a2, a3⟩ := ho.2.2.1
  have hg : bS (grB M) (M 8 0) < 256 := Nat.lt_of_lt_of_le (bS_lt _) (p256 h8)
  unfold pX4_count
  rcases in_or 8 (by decide) x1 with ⟨w, h, e⟩ | ⟨hx, _⟩
  · subst e
    rw [hc.2.1, hc.1, hc.2.2.2.2.2.2, a1, hc.2.2.1]
    refine sw8 h (fun z => ?_) (fun z => ?_) (fun z => c_sum hw hc ?_) (fun z => c_bits hw.t256 ?_) (fun z => c_grs hw hc (c_bits hg ?_)) (fun z => ?_) (fun z => ?_) (fun z => c_filled hw hc ?_)
    · unfold pX5_count
      rw [m_0, hm.1]
      exact sw8 h (fun _ => ⟨v_0 (by decide) (by decide), rfl, hI⟩) (fun y => by omega) (fun y => by omega) (fun y => by omega) (fun y => by omega) (fun y => by omega) (fun y => by omega) (fun y => by omega)
    · unfold pX5_count
      rw [m_1, hm.2.1]
      exact sw8 h (fun y => by omega) (fun _ => ⟨v_1 (by decide) (by decide), rfl, hI⟩) (fun y => by omega) (fun y => by omega) (fun y => by omega) (fun y => by omega) (fun y => by omega) (fun y => by omega)
    · unfold pX5_count
      exact sw8 h (fun y => by omega) (fun y => by omega) (fun _ => m_sum hw hm ⟨rfl, hI⟩) (fun y => by omega) (fun y => by omega) (fun y => by omega) (fun y => by omega) (fun y => by omega)
    · unfold pX5_count
      exact sw8 h (fun y => by omega) (fun y => by omega) (fun y => by omega) (fun _ => m_turned hw hm (m_bits hw.t256 ⟨rfl, hI⟩)) (fun y => by omega) (fun y => by omega) (fun y => by omega) (fun y => by omega)
    · unfold pX5_count
      exact sw8 h (fun y => by omega) (fun y => by omega) (fun y => by omega) (fun y => by omega) (fun _ => m_grs hw hm (m_bits hg ⟨rfl, hI⟩)) (fun y => by omega) (fun y => by omega) (fun y => by omega)
    · unfold pX5_count
      rw [a2]
      exact sw8 h (fun y => by omega) (fun y => by omega) (fun y => by omega) (fun y => by omega) (fun y => by omega) (fun _ => ⟨rfl, hI⟩) (fun y => by omega) (fun y => by omega)
    · unfold pX5_count
      rw [m_2, hm.2.2.1]
      exact sw8 h (fun y => by omega) (fun y => by omega) (fun y => by omega) (fun y => by omega) (fun y => by omega) (fun y => by omega) (fun _ => ⟨v_2 (by decide) (by decide), rfl, hI⟩) (fun y => by omega)
    · unfold pX5_count
      exact sw8 h (fun y => by omega) (fun y => by omega) (fun y => by omega) (fun y => by omega) (fun y => by omega) (fun y => by omega) (fun y => by omega) (fun _ => m_filled hw hm ⟨rfl, hI⟩)
  · refine sw8o hx (c_found 0 (by decide) rfl ?_)
    unfold pX5_count
    exact sw8o hx (fin hI 0 (by decide) (by decide))
/-- the sum of the first k -/
def psm (f : Nat → Int32) : Nat → Int32
  | 0 => 0
  | k + 1 => psm f k + f k
theorem c_all {Q : Int32 → Prop} (h : Q (sm7 (S 5 0))) : pX4_allFindings S Q := by
  have key : ∀ d i, i + d = 7 → pX4_allFindings_4 S Q (d + 1) (psm (S 5 0) i) (nI i) := by
    intro d
    induction d with
    | zero =>
      intro i hi
      show pX4_allFindings_4s S _ Q _ _
      unfold pX4_allFindings_4s
      refine b_le (a := 7) (by decide) (by omega) (fun _ => ?_) (fun z => by omega)
      have e : i = 7 := by omega
      subst e
      have e2 : psm (S 5 0) 7 = sm7 (S 5 0) := by
        unfold sm7
        simp [psm]
      rw [e2]
      exact h
    | succ d ih =>
      intro i hi
      show pX4_allFindings_4s S (pX4_allFindings_4 S Q (d + 1)) Q _ _
      unfold pX4_allFindings_4s
      refine b_le (a := 7) (by decide) (by omega) (fun z => by omega) (fun _ => ⟨vp_in_nI (by omega) (by decide), ?_⟩)
      intro v e
      rw [nI_clamp (by omega)] at e
      rw [e, nI_1]
      exact ih (i + 1) (by omega)
  exact ⟨_, key 7 0 (by omega)⟩
theorem ok41 : OK_41 Inv := by
  intro S μ x1 hI
  have hI' := hI
  obtain ⟨M, hw, hc, hm, ho⟩ := hI'
  have hfi := ho.2.1
  have em : (-1 : Int32).toInt = -1 := rfl
  have e6 : (6 : Int32).toInt = 6 := rfl
  unfold pX4_status pX4_status_29 pX4_status_34
  refine ⟨fun c => ?_, fun c => ?_⟩
  · have hcc : x1.toInt ≠ -1 := fun z => c (Int32.toInt_inj.mp (z.trans em.symm))
    rcases in_or 7 (by decide) x1 with ⟨i, hi, e⟩ | ⟨hx, hy⟩
    · subst e
      refine ⟨fun y => absurd y (nI_pos (by omega)), fun _ => ⟨fun y => absurd y (nI_ge hi (by decide)), fun _ => ⟨vp_in_nI hi (by decide), ?_⟩⟩⟩
      unfold pX5_status pX5_status_27
      refine m_within (fun _ _ => t1 ?_) (fun y => ?_)
      · rw [nI_1, nI_clamp (by omega), nI_clamp (by omega), hfi.1 i hi]
        exact ⟨vp_in_nI (by omega) (by decide), rfl, hI⟩
      · rw [Int32.lt_iff_toInt_lt, Int32.lt_iff_toInt_lt, nI_toInt (by omega), em, e6] at y
        omega
    · have G : pX4_found S 0 (fun r0 u0 => pX5_status μ x1 (fun r1 u1 => r0 = r1 ∧ Inv u0 u1)) := by
        refine c_found 0 (by decide) rfl ?_
        unfold pX5_status pX5_status_27
        refine m_within (fun y1 y2 => ?_) (fun _ => t0 (fin hI 0 (by decide) (by decide)))
        rw [Int32.lt_iff_toInt_lt, em] at y1
        rw [Int32.lt_iff_toInt_lt, e6] at y2
        rcases hy with hy | hy
        · rw [Int32.lt_iff_toInt_lt, Int32.toInt_zero] at hy
          omega
        · rw [Int32.le_iff_toInt_le, nI_toInt (by decide)] at hy
          omega
      exact ⟨fun _ => G, fun y => ⟨fun _ => G, fun y2 => absurd hy (fun z => z.elim y y2)⟩⟩
  · subst c
    refine c_all ?_
    unfold pX5_status pX5_status_27
    refine m_within (fun _ _ => t1 ⟨v_0 (by decide) (by decide), ?_, hI⟩) (fun y => absurd y (by decide))
    exact hfi.2.symm
theorem ok30 : OK_30 Inv := by
  intro S μ x1 x2 hI
  have hI' := hI
  obtain ⟨M, hw, hc, hm, ho⟩ := hI'
  have h8 := hw.1
  have G : pX5_hold_20 (fun r1 u1 => (-1000001) - nI 0 = r1 ∧ Inv (fS S 0) u1) μ := fin hI 0 (by decide) (by decide)
  unfold pX4_hold pX4_hold_23 pX4_hold_29
  refine c_isSpot (fun s hs e => ?_) (fun o1 => t0 (c_found 0 (by decide) rfl ?_))
  · subst e
    have e9 : (9 : Int32) + nI s = nI (9 + s) := nI_add 9 s
    have K : ∀ v, v ≤ M 8 0 → x2 = nI v - 1 → pX5_hold_27 (fun r1 u1 => (1 : Int32) = r1 ∧ Inv (va_up S 0 (st (S 0) 6 s x2)) u1) (nI s) x2 μ := by
      intro v hv e
      subst e
      unfold pX5_hold_27
      rw [e9, nI_clamp (by omega)]
      exact ⟨vp_in_nI (by omega) (by decide), rfl, ho.inv (Wf_s6 hw hv) (by rw [va_up_self]; exact Rc_s6 hc) (Rm_s6 hm hs) Fs.u0 Fr0.st.fm⟩
    have hv : vp_in (nI s) 10 := vp_in_nI hs (by decide)
    rw [nI_clamp (by omega)]
    refine t1 ⟨fun c => ⟨hv, ?_⟩, fun c => c_has hc h8 (fun i hi e => t1' ⟨hv, ?_⟩) (fun o2 => t0' (c_found 0 (by decide) rfl ?_))⟩
    · unfold pX5_hold
      exact m_y_isSpot hs (t1 ⟨fun _ => K 0 (by omega) (by rw [c]; decide), fun y => absurd c y⟩)
    · subst e
      unfold pX5_hold
      exact m_y_isSpot hs (t1 ⟨fun y => absurd y c, fun _ => m_y_isPiece hm h8 hi (t1' (K (i + 1) (by omega) (nI_pred i).symm))⟩)
    · unfold pX5_hold
      exact m_y_isSpot hs (t1 ⟨fun y => absurd y c, fun _ => m_n_isPiece hm h8 o2 (t0' G)⟩)
  · unfold pX5_hold
    exact m_n_isSpot o1 (t0 G)
def Und (a b : Nat) : Prop := a = b ∨ b = 0 ∨ (a = 3 ∧ b = 2) ∨ (a = 4 ∧ b = 3) ∨ (a = 4 ∧ b = 2) ∨ (a = 6 ∧ b = 1)
theorem c_under {a b : Nat} (ha : a < 7) (hb : b < 7) {Q : Int32 → Prop} (h1 : Und a b → Q 1) (h0 : ¬ Und a b → Q 0) : pX4_isOrUnder (nI a) (nI b) Q := by
  have e : ∀ c j : Nat, c < 7 → j < 7 → (nI c = nI j ↔ c = j) := fun c j hc hj => nI_eq (by omega) (by omega)
  have ea1 : nI a = 1 ↔ a = 1 := e a 1 ha (by decide)
  have ea2 : nI a = 2 ↔ a = 2 := e a 2 ha (by decide)
  have ea3 : nI a = 3 ↔ a = 3 := e a 3 ha (by decide)
  have ea4 : nI a = 4 ↔ a = 4 := e a 4 ha (by decide)
  have ea6 : nI a = 6 ↔ a = 6 := e a 6 ha (by decide)
  have eb0 : nI b = 0 ↔ b = 0 := e b 0 hb (by decide)
  have eb1 : nI b = 1 ↔ b = 1 := e b 1 hb (by decide)
  have eb2 : nI b = 2 ↔ b = 2 := e b 2 hb (by decide)
  have eb3 : nI b = 3 ↔ b = 3 := e b 3 hb (by decide)
  have eab : nI a = nI b ↔ a = b := e a b ha hb
  unfold Und at h1 h0
  unfold pX4_isOrUnder pX4_isOrUnder_45 pX4_isOrUnder_50 pX4_isOrUnder_66 pX4_isOrUnder_71 pX4_isOrUnder_82 pX4_isOrUnder_87 pX4_isOrUnder_98
  rw [ea1, ea2, ea3, ea4, ea6, eb0, eb1, eb2, eb3, eab]
  refine ⟨fun c => h1 (by omega), fun c => ⟨fun d => ⟨Or.inr rfl, h1 (by omega)⟩, fun d => ⟨fun d2 => ⟨Or.inl rfl, h0 (by omega)⟩, fun d2 => ⟨Or.inr rfl, h1 (by omega)⟩⟩⟩, fun c => ⟨fun d => ⟨Or.inr rfl, h1 (by omega)⟩, fun d => ⟨fun d2 => ⟨Or.inr rfl, h1 (by omega)⟩, fun d2 => ⟨fun d3 => ⟨Or.inl rfl, h0 (by omega)⟩, fun d3 => ⟨Or.inr rfl, h1 (by omega)⟩⟩⟩⟩, fun c => ⟨fun d => ⟨Or.inr rfl, h1 (by omega)⟩, fun d => ⟨fun d2 => ⟨Or.inl rfl, h0 (by omega)⟩, fun d2 => ⟨Or.inr rfl, h1 (by omega)⟩⟩⟩, fun c0 c1 c2 c3 => ⟨fun d => ⟨Or.inl rfl, h0 (by omega)⟩, fun d => ⟨Or.inr rfl, h1 (by omega)⟩⟩⟩
def ab (k : Nat) : Nat := if k = 3 then 2 else if k = 4 then 3 else if k = 6 then 1 else 0
theorem ab_lt (k : Nat) : ab k < 7 := by
  unfold ab
  repeat' split
  all_goals omega
theorem uS {k b n : Nat} (hk : k < 7) (hb : b < 7) {Q : Int32 → Prop} (h1 : k = b → Q 1) (h2 : k ≠ b → k = 0 → Q 0) (h3 : k ≠ b → k ≠ 0 → pX5_isUnder_2 Q (n + 1) (nI b) (nI (ab k))) : pX5_isUnder_2 Q (n + 2) (nI b) (nI k) := by
  show pX5_isUnder_2s (pX5_isUnder_2 Q (n + 1)) Q _ _
  unfold pX5_isUnder_2s pX5_isUnder_19 pX5_isUnder_28
  refine ⟨fun c => absurd c (nI_pos (by omega)), fun _ => b_eq (by omega) (by omega) (fun e => ⟨fun c => absurd c (nI_pos (by omega)), fun _ => ⟨Or.inr rfl, h1 e⟩⟩) (fun e => ?_)⟩
  unfold pX5_above pX5_above_37
  refine b_eq' (b := 0) (by omega) (by decide) (fun z => ?_) (fun z => ?_)
  · show pX5_isUnder_2s (pX5_isUnder_2 Q n) Q _ _
    unfold pX5_isUnder_2s pX5_isUnder_19 pX5_isUnder_28
    exact ⟨fun _ => ⟨fun _ => ⟨Or.inl rfl, h2 e z⟩, fun c => absurd (by decide) c⟩, fun c => absurd (by decide) c⟩
  · have h := h3 e z
    unfold ab at h
    refine b_eq' (b := 3) (by omega) (by decide) (fun y => ?_) (fun y3 => b_eq' (b := 4) (by omega) (by decide) (fun y => ?_) (fun y4 => b_eq' (b := 6) (by omega) (by decide) (fun y => ?_) (fun y6 => ?_)))
    · rw [if_pos y] at h; exact h
    · rw [if_neg y3, if_pos y] at h; exact h
    · rw [if_neg y3, if_neg y4, if_pos y] at h; exact h
    · rw [if_neg y3, if_neg y4, if_neg y6] at h; exact h
theorem m_under {a b : Nat} (ha : a < 7) (hb : b < 7) {Q : Int32 → Prop} (h1 : Und a b → Q 1) (h0 : ¬ Und a b → Q 0) : pX5_isUnder (nI a) (nI b) Q := by
  unfold Und at h1 h0
  refine ⟨5, ?_⟩
  have z : a = 0 ∨ a = 1 ∨ a = 2 ∨ a = 3 ∨ a = 4 ∨ a = 5 ∨ a = 6 := by omega
  rcases z with z | z | z | z | z | z | z <;> subst z
  · exact uS (by decide) hb (fun c => h1 (by omega)) (fun c d => h0 (by omega)) (fun c d => absurd rfl d)
  · exact uS (by decide) hb (fun c => h1 (by omega)) (fun c d => by omega) (fun c d => uS (k := 0) (by decide) hb (fun c => h1 (by omega)) (fun c d => h0 (by omega)) (fun c d => absurd rfl d))
  · exact uS (by decide) hb (fun c => h1 (by omega)) (fun c d => by omega) (fun c d => uS (k := 0) (by decide) hb (fun c => h1 (by omega)) (fun c d => h0 (by omega)) (fun c d => absurd rfl d))
  · exact uS (by decide) hb (fun c => h1 (by omega)) (fun c d => by omega) (fun c d => uS (k := 2) (by decide) hb (fun c => h1 (by omega)) (fun c d => by omega) (fun c d => uS (k := 0) (by decide) hb (fun c => h1 (by omega)) (fun c d => h0 (by omega)) (fun c d => absurd rfl d)))
  · exact uS (by decide) hb (fun c => h1 (by omega)) (fun c d => by omega) (fun c d => uS (k := 3) (by decide) hb (fun c => h1 (by omega)) (fun c d => by omega) (fun c d => uS (k := 2) (by decide) hb (fun c => h1 (by omega)) (fun c d => by omega) (fun c d => uS (k := 0) (by decide) hb (fun c => h1 (by omega)) (fun c d => h0 (by omega)) (fun c d => absurd rfl d))))
  · exact uS (by decide) hb (fun c => h1 (by omega)) (fun c d => by omega) (fun c d => uS (k := 0) (by decide) hb (fun c => h1 (by omega)) (fun c d => h0 (by omega)) (fun c d => absurd rfl d))
  · exact uS (by decide) hb (fun c => h1 (by omega)) (fun c d => by omega) (fun c d => uS (k := 1) (by decide) hb (fun c => h1 (by omega)) (fun c d => by omega) (fun c d => uS (k := 0) (by decide) hb (fun c => h1 (by omega)) (fun c d => h0 (by omega)) (fun c d => absurd rfl d)))
theorem ok31 : OK_31 Inv := by
  intro S μ x1 x2 hI
  have hI' := hI
  obtain ⟨M, hw, hc, hm, ho⟩ := hI'
  have h8 := hw.1
  have G : pX5_as_14 (fun r1 u1 => (-1000001) - nI 0 = r1 ∧ Inv (fS S 0) u1) μ := fin hI 0 (by decide) (by decide)
  unfold pX4_as pX4_as_14 pX4_as_65
  refine c_isSpot (fun s hs e => ?_) (fun o1 => t0 (c_found 0 (by decide) rfl ?_))
  · subst e
    have e9 : (9 : Int32) + nI s = nI (9 + s) := nI_add 9 s
    have hv9 : vp_in (nI (9 + s)) 67 := vp_in_nI (by omega) (by decide)
    have h6 := hw.2.2.2.2.2.2 s hs
    refine t1 (c_isKind (fun k hk e => t1' ⟨vp_in_nI hs (by decide), ?_⟩) (fun o2 => t0' (c_found 0 (by decide) rfl ?_)))
    · subst e
      intro v29 e29
      rw [nI_clamp (by omega), hc.2.2.2.2.2.1 s hs] at e29
      have em := hm.2.2.2.2.1 s hs
      by_cases z : M 6 s = 0
      · have en : ¬ 0 ≤ v29 := by
          rw [e29, m1_nn (by omega)]
          exact fun y => y z
        refine ⟨fun y => absurd y en, fun _ => c_found 5 (by decide) rfl ?_⟩
        unfold pX5_as
        refine m_y_isSpot hs (t1 (m_y_isKind hk (t1' ?_)))
        rw [e9, nI_clamp (by omega)]
        refine ⟨hv9, ?_⟩
        intro v30 e30
        have en' : ¬ 0 ≤ v30 := by
          rw [e30, em, m1_nn (by omega)]
          exact fun y => y z
        exact ⟨fun y => absurd y en', fun _ => fin hI 5 (by decide) (by decide)⟩
      · have ec : nI (M 6 s) - 1 = nI (M 6 s - 1) := pk_sub (b := 1) (by omega)
        rw [ec] at e29 em
        have hp : M 6 s - 1 < M 8 0 := by omega
        have hkp := (hw.2.2.2.1 _ hp).1
        subst e29
        refine ⟨fun _ => ⟨vp_in_nI (by omega) (by decide), ?_⟩, fun y => absurd (nI_pos' (by omega)) y⟩
        rw [nI_clamp (by omega), (hc.2.2.2.1 _ hp).1]
        have hgo : ∀ {R : Int32 → Mx → Prop}, pX5_isUnder (nI (M 0 (M 6 s - 1))) (nI k) (fun r49 => (r49 = 0 → pX5_finding μ (-1000003) (fun r63 u63 => pX5_as_66 R r63 u63)) ∧ (¬ r49 = 0 → pX5_as_66 R (nI (M 6 s - 1)) μ)) → pX5_as μ (nI s) (nI k) R := by
          intro R hR
          unfold pX5_as
          refine m_y_isSpot hs (t1 (m_y_isKind hk (t1' ?_)))
          rw [e9, nI_clamp (by omega)]
          refine ⟨hv9, ?_⟩
          intro v30 e30
          rw [em] at e30
          subst e30
          exact ⟨fun _ => m_f0 hw hm hp hR, fun y => absurd (nI_pos' (by omega)) y⟩
        refine c_under hkp hk (fun u => t1 (hgo (m_under hkp hk (fun _ => t1 ⟨rfl, hI⟩) (fun n => absurd u n)))) (fun n => t0 (c_found 2 (by decide) rfl (hgo (m_under hkp hk (fun u => absurd u n) (fun _ => t0 (fin hI 2 (by decide) (by decide)))))))
    · unfold pX5_as
      exact m_y_isSpot hs (t1 (m_n_isKind o2 (t0' G)))
  · unfold pX5_as
    exact m_n_isSpot o1 (t0 G)
end More
