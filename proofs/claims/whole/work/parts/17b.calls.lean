theorem rg {n : Nat} (hn : n < 2 ^ 30) {x K : Int32} (hK : K = nI n - 1) {A B : Prop} (hA : Out n x → A) (hB : ∀ i, i < n → x = nI i → B) : (x < 0 → A) ∧ (¬ x < 0 → ((x ≤ K → B) ∧ (¬ x ≤ K → A))) := by
  subst hK
  have e1 : (nI n - 1).toInt = (n : Int) - 1 := pk_sub_toInt (b := 1) hn (by decide)
  rcases in_or n (by omega) x with ⟨i, hi, e⟩ | ⟨ho, hx⟩
  · subst e
    refine ⟨fun c => absurd c (nI_pos (by omega)), fun _ => ⟨fun _ => hB i hi rfl, fun c => absurd ?_ c⟩⟩
    rw [Int32.le_iff_toInt_le, e1, nI_toInt (by omega)]
    omega
  · refine ⟨fun _ => hA ho, fun c => ⟨fun c2 => ?_, fun _ => hA ho⟩⟩
    rcases hx with hx | hx
    · exact absurd hx c
    · rw [Int32.le_iff_toInt_le, nI_toInt (by omega)] at hx
      rw [Int32.le_iff_toInt_le, e1] at c2
      omega
def In1 (n : Nat) (x : Int32) : Prop := ∃ i, 1 ≤ i ∧ i ≤ n ∧ x = nI i
theorem in1 (n : Nat) (hn : n < 2 ^ 30) (x : Int32) : In1 n x ∨ (¬ In1 n x ∧ (x < 1 ∨ nI n < x)) := by
  rcases in_or (n + 1) (by omega) x with ⟨i, hi, e⟩ | ⟨ho, hx⟩
  · by_cases z : i = 0
    · refine Or.inr ⟨fun ⟨j, h1, h2, h3⟩ => ?_, Or.inl ?_⟩
      · rw [e, z] at h3
        have := (nI_eq (by omega) (by omega)).mp h3
        omega
      · rw [e, z]
        decide
    · exact Or.inl ⟨i, by omega, by omega, e⟩
  · refine Or.inr ⟨fun ⟨j, h1, h2, h3⟩ => ho j (by omega) h3, ?_⟩
    rcases hx with hx | hx
    · refine Or.inl ?_
      rw [Int32.lt_iff_toInt_lt] at hx ⊢
      have e0 : (0 : Int32).toInt = 0 := rfl
      have e1 : (1 : Int32).toInt = 1 := rfl
      omega
    · refine Or.inr ?_
      rw [Int32.le_iff_toInt_le, nI_toInt (by omega)] at hx
      rw [Int32.lt_iff_toInt_lt, nI_toInt (by omega)]
      omega
theorem in1_no {n : Nat} (hn : n < 2 ^ 30) {x : Int32} (h : In1 n x) : ¬ x < 1 ∧ ¬ nI n < x := by
  obtain ⟨i, h1, h2, e⟩ := h
  subst e
  have e1 : nI i < 1 ↔ i < 1 := nI_ltI (b := 1) (by omega) (by decide)
  exact ⟨fun z => absurd (e1.mp z) (by omega), fun z => absurd ((nI_ltI (by omega) (by omega)).mp z) (by omega)⟩
theorem rg1 {n : Nat} (hn : n < 2 ^ 30) {x K : Int32} (hK : K = nI n) {A B : Prop} (hA : ¬ In1 n x → A) (hB : ∀ i, 1 ≤ i → i ≤ n → x = nI i → B) : (x < 1 → A) ∧ (¬ x < 1 → ((x ≤ K → B) ∧ (¬ x ≤ K → A))) := by
  subst hK
  rcases in1 n hn x with h | ⟨h, hx⟩
  · have hno := in1_no hn h
    obtain ⟨i, h1, h2, e⟩ := h
    have hb := hB i h1 h2 e
    refine ⟨fun c => absurd c hno.1, fun _ => ⟨fun _ => hb, fun c => absurd ?_ c⟩⟩
    have hq := hno.2
    rw [Int32.lt_iff_toInt_lt] at hq
    rw [Int32.le_iff_toInt_le]
    omega
  · refine ⟨fun _ => hA h, fun c => ⟨fun c2 => ?_, fun _ => hA h⟩⟩
    rcases hx with hx | hx
    · exact absurd hx c
    · rw [Int32.le_iff_toInt_le] at c2
      rw [Int32.lt_iff_toInt_lt] at hx
      omega
theorem m_w1 {n : Nat} (hn : n < 2 ^ 30) {x K : Int32} (hK : K = nI n) {Q : Int32 → Prop} (h1 : In1 n x → Q 1) (h0 : ¬ In1 n x → Q 0) : pX5_within x 1 K Q := by
  subst hK
  rcases in1 n hn x with h | ⟨h, hx⟩
  · have hno := in1_no hn h
    exact m_within (fun _ _ => h1 h) (fun z => absurd z (fun y => y.elim hno.1 hno.2))
  · exact m_within (fun a b => absurd hx (fun y => y.elim a b)) (fun _ => h0 h)
theorem ten (a b : Nat) : (10 * nI a) + nI b = nI (10 * a + b) := by
  have e : (10 : Int32) * nI a = nI (10 * a) := pk_mul 10 a
  rw [e, nI_add]
theorem ok0 : OK_0 Inv := by
  intro S μ x1 x2 x3 hI
  have hI' := hI
  obtain ⟨M, hw, hc, hm, ho⟩ := hI'
  have G : pX5_list_37 (fun r1 u1 => (-1000001) - nI 0 = r1 ∧ Inv (fS S 0) u1) μ := fin hI 0 (by decide) (by decide)
  unfold pX4_list pX4_list_21
  refine c_isListPlace (fun i hi e => ?_) (fun o1 => t0 (c_found 0 (by decide) rfl ?_))
  · subst e
    refine t1 (c_isPlace (fun a ha e => ?_) (fun o2 => t0 (c_found 0 (by decide) rfl ?_)))
    · subst e
      refine t1 (c_isPlace (fun b hb e => ?_) (fun o3 => t0' (c_found 0 (by decide) rfl ?_)))
      · subst e
        have hv : vp_in (nI i) 6 := vp_in_nI hi (by decide)
        refine t1' ⟨hv, ?_⟩
        intro v e
        refine ⟨hv, ?_⟩
        unfold pX5_list pX5_list_43
        refine m_y_isPlace hi (t1 (m_y_isOne ha (t1 (m_y_isOne hb (t1 ?_)))))
        have e3 : (3 : Int32) + nI i = nI (3 + i) := nI_add 3 i
        have hv3 : vp_in (nI (3 + i)) 67 := vp_in_nI (by omega) (by decide)
        unfold pX5_become
        rw [e3, ten, nI_clamp (by omega), nI_clamp (by omega)]
        rw [nI_clamp (by omega), hc.2.2.2.2.1 i hi] at e
        refine ⟨hv3, ?_⟩
        intro v6 e6
        rw [hm.2.2.2.1 i hi] at e6
        refine ⟨hv3, by rw [e, e6], ho.inv (Wf_s5 hw ⟨a, b, ha, hb, rfl⟩) ?_ (Rm_s5 hm hi) Fs.u0 Fr0.st.fm⟩
        rw [va_up_self]
        exact Rc_s5 hc
      · unfold pX5_list
        exact m_y_isPlace hi (t1 (m_y_isOne ha (t1 (m_n_isOne o3 (t0 G)))))
    · unfold pX5_list
      exact m_y_isPlace hi (t1 (m_n_isOne o2 (t0 G)))
  · unfold pX5_list
    exact m_n_isPlace o1 (t0 G)
theorem ok1 : OK_1 Inv := by
  intro S μ x1 hI
  have hI' := hI
  obtain ⟨M, hw, hc, hm, ho⟩ := hI'
  unfold pX4_listed pX4_listed_24
  refine c_isListPlace (fun i hi e => ?_) (fun o1 => t0 (c_found 0 (by decide) rfl ?_))
  · subst e
    refine t1 ⟨vp_in_nI hi (by decide), ?_⟩
    unfold pX5_listed pX5_listed_24
    have e3 : (3 : Int32) + nI i = nI (3 + i) := nI_add 3 i
    refine m_y_isPlace hi (t1 ?_)
    rw [e3, nI_clamp (by omega), nI_clamp (by omega), hc.2.2.2.2.1 i hi, hm.2.2.2.1 i hi]
    exact ⟨vp_in_nI (by omega) (by decide), rfl, hI⟩
  · unfold pX5_listed
    exact m_n_isPlace o1 (t0 (fin hI 0 (by decide) (by decide)))
theorem ok2 : OK_2 Inv := by
  intro S μ x1 x2 x3 hI
  have hI' := hI
  obtain ⟨M, hw, hc, hm, ho⟩ := hI'
  have h8 := hw.1
  have G : pX5_piece_21 (fun r1 u1 => (-1000001) - nI 0 = r1 ∧ Inv (fS S 0) u1) μ := fin hI 0 (by decide) (by decide)
  unfold pX4_piece pX4_piece_21
  refine c_isKind (fun i hi e => ?_) (fun o1 => t0 (c_found 0 (by decide) rfl ?_))
  · subst e
    refine t1 (c_isEdge (fun a ha e => ?_) (fun o2 => t0 (c_found 0 (by decide) rfl ?_)))
    · subst e
      refine t1 (c_isEdge (fun b hb e => ?_) (fun o3 => t0' (c_found 0 (by decide) rfl ?_)))
      · subst e
        refine t1' ?_
        rw [hc.1]
        refine b_lt (b := 8) (by omega) (by decide) (fun z => c_add hc z ?_) (fun z => c_found 1 (by decide) rfl ?_)
        · intro τ hτ
          unfold pX5_piece pX5_piece_55
          refine m_y_isKind hi (t1 (m_y_isEdge ha (t1 (m_y_isEdge hb (t1' ⟨v_1 (by decide) (by decide), ?_⟩)))))
          rw [m_1, hm.2.1]
          refine b_eq' (b := 8) (by omega) (by decide) (fun y => by omega) (fun _ => m_cut hm z ?_)
          intro μ' hm' hf
          exact ⟨rfl, ho.inv (Wf_ad hw z hi ha hb) (by rw [va_up_self]; exact hτ) hm' Fs.u0 hf.fm⟩
        · unfold pX5_piece pX5_piece_55
          refine m_y_isKind hi (t1 (m_y_isEdge ha (t1 (m_y_isEdge hb (t1' ⟨v_1 (by decide) (by decide), ?_⟩)))))
          rw [m_1, hm.2.1]
          exact b_eq' (b := 8) (by omega) (by decide) (fun _ => fin hI 1 (by decide) (by decide)) (fun y => by omega)
      · unfold pX5_piece
        exact m_y_isKind hi (t1 (m_y_isEdge ha (t1 (m_n_isEdge o3 (t0' G)))))
    · unfold pX5_piece
      exact m_y_isKind hi (t1 (m_n_isEdge o2 (t0 G)))
  · unfold pX5_piece
    exact m_n_isKind o1 (t0 G)
theorem ok3 : OK_3 Inv := by
  intro S μ x1 x2 hI
  have hI' := hI
  obtain ⟨M, hw, hc, hm, ho⟩ := hI'
  have h8 := hw.1
  have G : pX5_of_27 (fun r1 u1 => (-1000001) - nI 0 = r1 ∧ Inv (fS S 0) u1) μ := fin hI 0 (by decide) (by decide)
  unfold pX4_of pX4_of_21
  refine c_has hc h8 (fun i hi e => ?_) (fun o1 => t0 (c_found 0 (by decide) rfl ?_))
  · subst e
    refine t1 (rg (n := 7) (by decide) (by decide) (fun o2 => c_found 0 (by decide) rfl ?_) (fun w hw7 e => ?_))
    · unfold pX5_of
      exact m_y_isPiece hm h8 hi (t1 (mn (n := 7) (by decide) o2 (by decide) (t0 G)))
    · subst e
      refine c_told hw hc hi hw7 ?_
      unfold pX5_of pX5_of_33
      exact m_y_isPiece hm h8 hi (t1 (my (n := 7) (by decide) hw7 (by decide) (t1 (m_told hw hm hi hw7 ⟨rfl, hI⟩))))
  · unfold pX5_of
    exact m_n_isPiece hm h8 o1 (t0 G)
def NF (x2 x3 : Int32) : Prop := ∀ w v, w < 5 → bw w v → x2 = nI w → x3 ≠ bv w v
theorem NF_of {w : Nat} {x2 x3 : Int32} (hw : w < 5) (e : x2 = nI w) (h : ∀ v, bw w v → x3 ≠ bv w v) : NF x2 x3 := by
  intro w' v h5 hb e' he
  have z : w = w' := (nI_eq (by omega) (by omega)).mp (e.symm.trans e')
  subst z
  exact h v hb he
theorem bw0 {v : Nat} (h : v < 7) : bw 0 v := ⟨fun _ => h, fun z => absurd z (by decide), fun z => absurd z (by decide), fun z => absurd z (by decide), fun z => absurd z (by decide)⟩
theorem bw1 {v : Nat} (h : v < 10) : bw 1 v := ⟨fun z => absurd z (by decide), fun _ => h, fun z => absurd z (by decide), fun z => absurd z (by decide), fun z => absurd z (by decide)⟩
theorem bw2 {v : Nat} (h : v < 10) : bw 2 v := ⟨fun z => absurd z (by decide), fun z => absurd z (by decide), fun _ => h, fun z => absurd z (by decide), fun z => absurd z (by decide)⟩
theorem bw3 {v : Nat} (h : v ≤ 8) : bw 3 v := ⟨fun z => absurd z (by decide), fun z => absurd z (by decide), fun z => absurd z (by decide), fun _ => h, fun z => absurd z (by decide)⟩
theorem bw4 {v : Nat} (h : v ≤ 1) : bw 4 v := ⟨fun z => absurd z (by decide), fun z => absurd z (by decide), fun z => absurd z (by decide), fun z => absurd z (by decide), fun _ => h⟩
theorem bv3 (i : Nat) : bv 3 (i + 1) = nI i := nI_pred i
/-- what could be, told by the numbers themselves -/
theorem fld (x2 x3 : Int32) : (∃ w v, w < 5 ∧ bw w v ∧ x2 = nI w ∧ x3 = bv w v) ∨ (Out 5 x2 ∧ NF x2 x3) ∨ (∃ w, w < 5 ∧ x2 = nI w ∧ (w = 0 → Out 7 x3) ∧ (w = 1 → Out 10 x3) ∧ (w = 2 → Out 10 x3) ∧ (w = 3 → Out 8 x3 ∧ x3 ≠ -1 ∧ (x3 < 0 ∨ 8 ≤ x3)) ∧ (w = 4 → Out 2 x3) ∧ NF x2 x3) := by
  rcases in_or 5 (by decide) x2 with ⟨w, h5, e⟩ | ⟨ho, _⟩
  · rcases w5 h5 with z | z | z | z | z <;> subst z
    · rcases in_or 7 (by decide) x3 with ⟨v, hv, e3⟩ | ⟨ho, _⟩
      · exact Or.inl ⟨0, v, h5, bw0 hv, e, e3⟩
      · exact Or.inr (Or.inr ⟨0, h5, e, fun _ => ho, fun z => absurd z (by decide), fun z => absurd z (by decide), fun z => absurd z (by decide), fun z => absurd z (by decide), NF_of h5 e (fun v hb he => ho v (hb.1 rfl) he)⟩)
    · rcases in_or 10 (by decide) x3 with ⟨v, hv, e3⟩ | ⟨ho, _⟩
      · exact Or.inl ⟨1, v, h5, bw1 hv, e, e3⟩
      · exact Or.inr (Or.inr ⟨1, h5, e, fun z => absurd z (by decide), fun _ => ho, fun z => absurd z (by decide), fun z => absurd z (by decide), fun z => absurd z (by decide), NF_of h5 e (fun v hb he => ho v (hb.2.1 rfl) he)⟩)
    · rcases in_or 10 (by decide) x3 with ⟨v, hv, e3⟩ | ⟨ho, _⟩
      · exact Or.inl ⟨2, v, h5, bw2 hv, e, e3⟩
      · exact Or.inr (Or.inr ⟨2, h5, e, fun z => absurd z (by decide), fun z => absurd z (by decide), fun _ => ho, fun z => absurd z (by decide), fun z => absurd z (by decide), NF_of h5 e (fun v hb he => ho v (hb.2.2.1 rfl) he)⟩)
    · by_cases c : x3 = -1
      · exact Or.inl ⟨3, 0, h5, bw3 (by decide), e, by rw [c]; decide⟩
      · rcases in_or 8 (by decide) x3 with ⟨v, hv, e3⟩ | ⟨ho, hx⟩
        · exact Or.inl ⟨3, v + 1, h5, bw3 (by omega), e, by rw [e3, bv3]⟩
        · refine Or.inr (Or.inr ⟨3, h5, e, fun z => absurd z (by decide), fun z => absurd z (by decide), fun z => absurd z (by decide), fun _ => ⟨ho, c, hx⟩, fun z => absurd z (by decide), NF_of h5 e (fun v hb he => ?_)⟩)
          have h3 := hb.2.2.2.1 rfl
          rcases Nat.eq_zero_or_pos v with y | y
          · subst y
            exact c (he.trans (by decide))
          · have y2 : v = (v - 1) + 1 := by omega
            rw [y2, bv3] at he
            exact ho (v - 1) (by omega) he
    · rcases in_or 2 (by decide) x3 with ⟨v, hv, e3⟩ | ⟨ho, _⟩
      · exact Or.inl ⟨4, v, h5, bw4 (by omega), e, e3⟩
      · exact Or.inr (Or.inr ⟨4, h5, e, fun z => absurd z (by decide), fun z => absurd z (by decide), fun z => absurd z (by decide), fun z => absurd z (by decide), fun _ => ho, NF_of h5 e (fun v hb he => ho v (by have := hb.2.2.2.2 rfl; omega) he)⟩)
  · exact Or.inr (Or.inl ⟨ho, fun w v h5 _ e _ => ho w h5 e⟩)
theorem c_y_isKind {i : Nat} (hi : i < 7) {Q : Int32 → Prop} (h : Q 1) : pX4_isKind (nI i) Q := c_isKind (fun _ _ _ => h) (fun ho => absurd rfl (ho i hi))
theorem c_n_isKind {x : Int32} (ho : Out 7 x) {Q : Int32 → Prop} (h : Q 0) : pX4_isKind x Q := c_isKind (fun j hj z => absurd z (ho j hj)) (fun _ => h)
theorem c_y_isEdge {i : Nat} (hi : i < 10) {Q : Int32 → Prop} (h : Q 1) : pX4_isEdge (nI i) Q := c_isEdge (fun _ _ _ => h) (fun ho => absurd rfl (ho i hi))
theorem c_n_isEdge {x : Int32} (ho : Out 10 x) {Q : Int32 → Prop} (h : Q 0) : pX4_isEdge x Q := c_isEdge (fun j hj z => absurd z (ho j hj)) (fun _ => h)
theorem sw5 {w : Nat} (h5 : w < 5) {A0 A1 A2 A3 A4 A5 : Prop} (h0 : w = 0 → A0) (h1 : w = 1 → A1) (h2 : w = 2 → A2) (h3 : w = 3 → A3) (h4 : w = 4 → A4) : (nI w = 0 → A0) ∧ (nI w = 1 → A1) ∧ (nI w = 2 → A2) ∧ (nI w = 3 → A3) ∧ (nI w = 4 → A4) ∧ (¬ nI w = 0 → ¬ nI w = 1 → ¬ nI w = 2 → ¬ nI w = 3 → ¬ nI w = 4 → A5) := by
  have e : ∀ j : Nat, j < 7 → (nI w = nI j ↔ w = j) := fun j hj => nI_eq (by omega) (by omega)
  refine ⟨fun c => h0 ((e 0 (by decide)).mp c), fun c => h1 ((e 1 (by decide)).mp c), fun c => h2 ((e 2 (by decide)).mp c), fun c => h3 ((e 3 (by decide)).mp c), fun c => h4 ((e 4 (by decide)).mp c), fun c0 c1 c2 c3 c4 => ?_⟩
  rcases w5 h5 with z | z | z | z | z <;> subst z
  · exact absurd rfl c0
  · exact absurd rfl c1
  · exact absurd rfl c2
  · exact absurd rfl c3
  · exact absurd rfl c4
theorem sw5o {x : Int32} (ho : Out 5 x) {A0 A1 A2 A3 A4 A5 : Prop} (h : A5) : (x = 0 → A0) ∧ (x = 1 → A1) ∧ (x = 2 → A2) ∧ (x = 3 → A3) ∧ (x = 4 → A4) ∧ (¬ x = 0 → ¬ x = 1 → ¬ x = 2 → ¬ x = 3 → ¬ x = 4 → A5) :=
  ⟨fun c => absurd c (ho 0 (by decide)), fun c => absurd c (ho 1 (by decide)), fun c => absurd c (ho 2 (by decide)), fun c => absurd c (ho 3 (by decide)), fun c => absurd c (ho 4 (by decide)), fun _ _ _ _ _ => h⟩
theorem c_couldBe {x2 x3 : Int32} {Q : Int32 → Prop} (h1 : ∀ w v, w < 5 → bw w v → x2 = nI w → x3 = bv w v → Q 1) (h0 : NF x2 x3 → Q 0) : pX4_couldBe x2 x3 Q := by
  unfold pX4_couldBe pX4_couldBe_41 pX4_couldBe_61 pX4_couldBe_62 pX4_couldBe_72 pX4_couldBe_77
  rcases fld x2 x3 with ⟨w, v, h5, hb, e2, e3⟩ | ⟨ho, hn⟩ | ⟨w, h5, e2, n0, n1, n2, n3, n4, hn⟩
  · have q1 := h1 w v h5 hb e2 e3
    subst e2 e3
    refine sw5 h5 (fun z => ?_) (fun z => ?_) (fun z => ?_) (fun z => ?_) (fun z => ?_)
    · subst z
      exact c_y_isKind (hb.1 rfl) ⟨Or.inr rfl, q1⟩
    · subst z
      exact c_y_isEdge (hb.2.1 rfl) ⟨Or.inr rfl, q1⟩
    · subst z
      exact c_y_isEdge (hb.2.2.1 rfl) ⟨Or.inr rfl, q1⟩
    · subst z
      have h3 := hb.2.2.2.1 rfl
      have et : (bv 3 v).toInt = (v : Int) - 1 := pk_sub_toInt (b := 1) (by omega) (by decide)
      refine ⟨fun c => ?_, fun _ => ⟨fun c => ?_, fun _ => ⟨Or.inr rfl, q1⟩⟩⟩
      · rw [Int32.lt_iff_toInt_lt, et] at c
        have em : (-1 : Int32).toInt = -1 := rfl
        omega
      · rw [Int32.le_iff_toInt_le, et] at c
        have em : (8 : Int32).toInt = 8 := rfl
        omega
    · subst z
      have h4 := hb.2.2.2.2 rfl
      exact b_eq (b := 0) (by omega) (by decide) (fun _ => ⟨Or.inr rfl, q1⟩) (fun y => b_eq' (b := 1) (by omega) (by decide) (fun _ => ⟨Or.inr rfl, q1⟩) (fun y2 => by omega))
  · exact sw5o ho (h0 hn)
  · have q0 := h0 hn
    subst e2
    refine sw5 h5 (fun z => ?_) (fun z => ?_) (fun z => ?_) (fun z => ?_) (fun z => ?_)
    · exact c_n_isKind (n0 z) ⟨Or.inl rfl, q0⟩
    · exact c_n_isEdge (n1 z) ⟨Or.inl rfl, q0⟩
    · exact c_n_isEdge (n2 z) ⟨Or.inl rfl, q0⟩
    · obtain ⟨o, c, hx⟩ := n3 z
      refine ⟨fun _ => ⟨Or.inl rfl, q0⟩, fun y => ⟨fun _ => ⟨Or.inl rfl, q0⟩, fun y2 => ?_⟩⟩
      rcases hx with hx | hx
      · refine absurd ?_ y
        rw [Int32.lt_iff_toInt_lt] at hx ⊢
        have em : (-1 : Int32).toInt = -1 := rfl
        have e0 : (0 : Int32).toInt = 0 := rfl
        have cc : x3.toInt ≠ -1 := fun z => c (Int32.toInt_inj.mp (z.trans em.symm))
        omega
      · exact absurd hx y2
    · have o := n4 z
      exact ⟨fun y => absurd y (o 0 (by decide)), fun _ => ⟨fun _ => ⟨Or.inl rfl, q0⟩, fun y => absurd y (o 1 (by decide))⟩⟩
theorem m_isField {x2 x3 : Int32} {Q : Int32 → Prop} (h1 : ∀ w v, w < 5 → bw w v → x2 = nI w → x3 = bv w v → Q 1) (h0 : NF x2 x3 → Q 0) : pX5_isField x2 x3 Q := by
  unfold pX5_isField pX5_isField_41 pX5_isField_58 pX5_isField_63
  rcases fld x2 x3 with ⟨w, v, h5, hb, e2, e3⟩ | ⟨ho, hn⟩ | ⟨w, h5, e2, n0, n1, n2, n3, n4, hn⟩
  · have q1 := h1 w v h5 hb e2 e3
    subst e2 e3
    refine sw5 h5 (fun z => ?_) (fun z => ?_) (fun z => ?_) (fun z => ?_) (fun z => ?_)
    · subst z
      exact m_y_isKind (hb.1 rfl) ⟨Or.inr rfl, q1⟩
    · subst z
      exact m_y_isEdge (hb.2.1 rfl) ⟨Or.inr rfl, q1⟩
    · subst z
      exact m_y_isEdge (hb.2.2.1 rfl) ⟨Or.inr rfl, q1⟩
    · subst z
      have h3 := hb.2.2.2.1 rfl
      refine ⟨fun _ => ⟨Or.inr rfl, q1⟩, fun c => ?_⟩
      rcases Nat.eq_zero_or_pos v with y | y
      · subst y
        exact absurd (by decide) c
      · have y2 : v = (v - 1) + 1 := by omega
        have hq : pX5_isOne (nI (v - 1)) (fun r52 => (r52 = 0 → ((0 : Int32) = 0 ∨ (0 : Int32) = 1) ∧ Q 0) ∧ (¬ r52 = 0 → ((1 : Int32) = 0 ∨ (1 : Int32) = 1) ∧ Q 1)) := m_y_isOne (by omega) (t1 ⟨Or.inr rfl, q1⟩)
        rw [y2, bv3]
        exact hq
    · subst z
      exact my (n := 2) (by decide) (by have := hb.2.2.2.2 rfl; omega) (by decide) ⟨Or.inr rfl, q1⟩
  · exact sw5o ho (h0 hn)
  · have q0 := h0 hn
    subst e2
    refine sw5 h5 (fun z => ?_) (fun z => ?_) (fun z => ?_) (fun z => ?_) (fun z => ?_)
    · exact m_n_isKind (n0 z) ⟨Or.inl rfl, q0⟩
    · exact m_n_isEdge (n1 z) ⟨Or.inl rfl, q0⟩
    · exact m_n_isEdge (n2 z) ⟨Or.inl rfl, q0⟩
    · obtain ⟨o, c, hx⟩ := n3 z
      exact ⟨fun y => absurd y c, fun _ => m_n_isOne o (t0 ⟨Or.inl rfl, q0⟩)⟩
    · exact mn (n := 2) (by decide) (n4 z) (by decide) ⟨Or.inl rfl, q0⟩
theorem ok4 : OK_4 Inv := by
  intro S μ x1 x2 x3 hI
  have hI' := hI
  obtain ⟨M, hw, hc, hm, ho⟩ := hI'
  have h8 := hw.1
  have G : pX5_change_29 (fun r1 u1 => (-1000001) - nI 0 = r1 ∧ Inv (fS S 0) u1) μ := fin hI 0 (by decide) (by decide)
  unfold pX4_change pX4_change_19
  refine c_has hc h8 (fun i hi e => ?_) (fun o1 => t0 (c_found 0 (by decide) rfl ?_))
  · subst e
    refine t1 (c_couldBe (fun w v h5 hb e2 e3 => t1' ?_) (fun nf => t0' (c_found 0 (by decide) rfl ?_)))
    · subst e2 e3
      refine c_told hw hc hi (by omega) (c_become hw hc hi h5 hb (fun τ hτ => ?_))
      unfold pX5_change pX5_change_35
      refine m_y_isPiece hm h8 hi (t1 (m_isField (fun _ _ _ _ _ _ => t1 ?_) (fun nf => absurd rfl (nf w v h5 hb rfl))))
      refine m_pieceAt ?_
      unfold pX5_become
      rw [nI_clamp (by omega)]
      have hv : vp_in (nI (19 + 5 * i + w)) 67 := vp_in_nI (by omega) (by decide)
      refine ⟨hv, ?_⟩
      intro v6 e6
      have et : toldN M i w = μ 0 (19 + 5 * i + w) := by
        have hp := hm.2.2.2.2.2.1 i hi
        rcases w5 h5 with z | z | z | z | z <;> subst z
        · exact hp.1.symm
        · exact hp.2.1.symm
        · exact hp.2.2.1.symm
        · exact hp.2.2.2.1.symm
        · exact hp.2.2.2.2.symm
      exact ⟨hv, by rw [e6, et], ho.inv (Wf_be hw h5 hb) (by rw [va_up_self]; exact hτ) (Rm_be hm h5 (by omega)) Fs.u0 Fr0.st.fm⟩
    · unfold pX5_change
      exact m_y_isPiece hm h8 hi (t1 (m_isField (fun w v h5 hb e2 e3 => absurd e3 (nf w v h5 hb e2)) (fun _ => t0 G)))
  · unfold pX5_change
    exact m_n_isPiece hm h8 o1 (t0 G)
theorem ok5 : OK_5 Inv := by
  intro S μ x1 hI
  have hI' := hI
  obtain ⟨M, hw, hc, hm, ho⟩ := hI'
  have h8 := hw.1
  unfold pX4_lies pX4_lies_28
  refine c_has hc h8 (fun i hi e => ?_) (fun o1 => t0 (c_found 0 (by decide) rfl ?_))
  · subst e
    refine t1 ⟨vp_in_nI (by omega) (by decide), ?_⟩
    unfold pX5_lies pX5_lies_26
    refine m_y_isPiece hm h8 hi (t1 ?_)
    rw [m_at59 (by omega), nI_clamp (by omega), (hc.2.2.2.1 i hi).2.2.2.2, hm.2.2.2.2.2.2 i hi]
    exact ⟨m_in59 (by omega), rfl, hI⟩
  · unfold pX5_lies
    exact m_n_isPiece hm h8 o1 (t0 (fin hI 0 (by decide) (by decide)))
theorem ok6 : OK_6 Inv := by
  intro S μ x1 x2 hI
  have hI' := hI
  obtain ⟨M, hw, hc, hm, ho⟩ := hI'
  have h8 := hw.1
  have G : pX5_gap_30 (fun r1 u1 => (-1000001) - nI 0 = r1 ∧ Inv (fS S 0) u1) μ := fin hI 0 (by decide) (by decide)
  unfold pX4_gap pX4_gap_27
  refine c_has hc h8 (fun a ha e => ?_) (fun o1 => t0 (c_found 0 (by decide) rfl ?_))
  · subst e
    refine t1 (c_has hc h8 (fun b hb e => ?_) (fun o1 => t0 (c_found 0 (by decide) rfl ?_)))
    · subst e
      refine t1 (b_eq' (by omega) (by omega) (fun z => c_found 0 (by decide) rfl ?_) (fun z => c_gap hw hc ha hb ?_))
      · unfold pX5_gap
        exact m_y_isPiece hm h8 ha (t1 (m_y_isPiece hm h8 hb (t1 (b_eq (by omega) (by omega) (fun _ => G) (fun y => absurd z y)))))
      · unfold pX5_gap pX5_gap_36
        exact m_y_isPiece hm h8 ha (t1 (m_y_isPiece hm h8 hb (t1 (b_eq (by omega) (by omega) (fun y => absurd y z) (fun _ => m_gap hw hm ha hb ⟨rfl, hI⟩)))))
    · unfold pX5_gap
      exact m_y_isPiece hm h8 ha (t1 (m_n_isPiece hm h8 o1 (t0 G)))
  · unfold pX5_gap
    exact m_n_isPiece hm h8 o1 (t0 G)
theorem ok7 : OK_7 Inv := by
  intro S μ x1 x2 hI
  have hI' := hI
  obtain ⟨M, hw, hc, hm, ho⟩ := hI'
  have h8 := hw.1
  have G : pX5_edge_26 (fun r1 u1 => (-1000001) - nI 0 = r1 ∧ Inv (fS S 0) u1) μ := fin hI 0 (by decide) (by decide)
  unfold pX4_edge pX4_edge_20
  refine c_has hc h8 (fun a ha e => ?_) (fun o1 => t0 (c_found 0 (by decide) rfl ?_))
  · subst e
    refine t1 (rg (n := 2) (by decide) (by decide) (fun o2 => c_found 0 (by decide) rfl ?_) (fun s hs e => ?_))
    · unfold pX5_edge
      exact m_y_isPiece hm h8 ha (t1 (mn (n := 2) (by decide) o2 (by decide) (t0 G)))
    · subst e
      refine c_edge hw hc ha hs ?_
      unfold pX5_edge pX5_edge_32
      exact m_y_isPiece hm h8 ha (t1 (my (n := 2) (by decide) hs (by decide) (t1 (m_edge hw hm ha hs ⟨rfl, hI⟩))))
  · unfold pX5_edge
    exact m_n_isPiece hm h8 o1 (t0 G)
theorem exP_y {M : Nx} {a b : Nat} (ha : a < M 8 0) (hb : b < M 8 0) : exP M a b = exN M a b := by
  unfold exP
  exact if_pos ⟨ha, hb⟩
theorem ok8 : OK_8 Inv := by
  intro S μ x1 x2 hI
  have hI' := hI
  obtain ⟨M, hw, hc, hm, ho⟩ := hI'
  have h8 := hw.1
  have G : pX5_swap_16 (fun r1 u1 => (-1000001) - nI 0 = r1 ∧ Inv (fS S 0) u1) μ := fin hI 0 (by decide) (by decide)
  unfold pX4_swap pX4_swap_22
  refine c_has hc h8 (fun a ha e => ?_) (fun o1 => t0 (c_found 0 (by decide) rfl ?_))
  · subst e
    refine t1 (c_has hc h8 (fun b hb e => ?_) (fun o1 => t0' (c_found 0 (by decide) rfl ?_)))
    · subst e
      refine t1' (c_ex hw hc rfl rfl (by omega) (by omega) (fun τ hτ => ?_))
      rw [exP_y ha hb] at hτ
      have hw' := Wf_ex hw ha hb
      rw [va_up_self]
      refine c_sum hw' hτ ?_
      unfold pX5_swap
      refine m_y_isPiece hm h8 ha (t1 (m_y_isPiece hm h8 hb (t1' (m_ex hw hm rfl rfl ha hb (fun μ' hm' hf => m_sum hw' hm' ⟨rfl, ?_⟩)))))
      exact ho.inv hw' (by rw [va_up_self]; exact hτ) hm' Fs.u0 hf.fm
    · unfold pX5_swap
      exact m_y_isPiece hm h8 ha (t1 (m_n_isPiece hm h8 o1 (t0' G)))
  · unfold pX5_swap
    exact m_n_isPiece hm h8 o1 (t0 G)
theorem ok9 : OK_9 Inv := by
  intro S μ x1 hI
  have hI' := hI
  obtain ⟨M, hw, hc, hm, ho⟩ := hI'
  have h8 := hw.1
  have h9 := hw.2.1
  have G : pX5_finding μ (-1000001) (fun r1 u1 => (-1000001) - nI 0 = r1 ∧ Inv (fS S 0) u1) := fin hI 0 (by decide) (by decide)
  unfold pX4_go pX4_go_11
  refine rg1 (n := 60) (by decide) rfl (fun no => c_found 0 (by decide) rfl ?_) (fun n n1 n2 e => ?_)
  · unfold pX5_go
    exact m_w1 (n := 60) (by decide) rfl (fun y => absurd y no) (fun _ => t0' G)
  · have hin : In1 60 x1 := ⟨n, n1, n2, e⟩
    subst e
    rw [hc.2.1, nI_add]
    have hv0 : vp_in 0 67 := v_0 (by decide) (by decide)
    refine b_le (b := 99999) (by omega) (by decide) (fun z => c_years hw hc (by omega) (fun τ hτ => ?_)) (fun z => c_found 4 (by decide) rfl ?_)
    · have hw' := Wf_yr hw n
      rw [va_up_self]
      refine c_sum hw' hτ ?_
      unfold pX5_go
      refine m_w1 (n := 60) (by decide) rfl (fun _ => t1' ⟨hv0, ?_⟩) (fun y => absurd hin y)
      rw [m_0, hm.1, nI_add]
      refine b_le (b := 99999) (by omega) (by decide) (fun _ => m_years hw hm (by omega) (fun μ' hm' hf => m_sum hw' hm' ⟨rfl, ?_⟩)) (fun y => by omega)
      exact ho.inv hw' (by rw [va_up_self]; exact hτ) hm' Fs.u0 hf.fm
    · unfold pX5_go
      refine m_w1 (n := 60) (by decide) rfl (fun _ => t1' ⟨hv0, ?_⟩) (fun y => absurd hin y)
      rw [m_0, hm.1, nI_add]
      exact b_le (b := 99999) (by omega) (by decide) (fun y => by omega) (fun _ => fin hI 4 (by decide) (by decide))
