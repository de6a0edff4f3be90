theorem my {n i : Nat} (hn : n < 2 ^ 30) (hi : i < n) {hh : Int32} (e : hh = nI n - 1) {Q : Int32 → Prop} (h : Q 1) : pX5_within (nI i) 0 hh Q := m_in hn e (fun _ _ _ => h) (fun ho => absurd rfl (ho i hi))
theorem mn {n : Nat} (hn : n < 2 ^ 30) {x hh : Int32} (ho : Out n x) (e : hh = nI n - 1) {Q : Int32 → Prop} (h : Q 0) : pX5_within x 0 hh Q := m_in hn e (fun j hj z => absurd z (ho j hj)) (fun _ => h)
theorem m_y_isOne {i : Nat} (hi : i < 8) {Q : Int32 → Prop} (h : Q 1) : pX5_isOne (nI i) Q := my (n := 8) (by decide) hi (by decide) ⟨Or.inr rfl, h⟩
theorem m_n_isOne {x : Int32} (ho : Out 8 x) {Q : Int32 → Prop} (h : Q 0) : pX5_isOne x Q := mn (n := 8) (by decide) ho (by decide) ⟨Or.inl rfl, h⟩
theorem m_y_isEdge {i : Nat} (hi : i < 10) {Q : Int32 → Prop} (h : Q 1) : pX5_isEdge (nI i) Q := my (n := 10) (by decide) hi (by decide) ⟨Or.inr rfl, h⟩
theorem m_n_isEdge {x : Int32} (ho : Out 10 x) {Q : Int32 → Prop} (h : Q 0) : pX5_isEdge x Q := mn (n := 10) (by decide) ho (by decide) ⟨Or.inl rfl, h⟩
theorem m_y_isPlace {i : Nat} (hi : i < 6) {Q : Int32 → Prop} (h : Q 1) : pX5_isPlace (nI i) Q := my (n := 6) (by decide) hi (by decide) ⟨Or.inr rfl, h⟩
theorem m_n_isPlace {x : Int32} (ho : Out 6 x) {Q : Int32 → Prop} (h : Q 0) : pX5_isPlace x Q := mn (n := 6) (by decide) ho (by decide) ⟨Or.inl rfl, h⟩
theorem m_y_isKind {i : Nat} (hi : i < 7) {Q : Int32 → Prop} (h : Q 1) : pX5_isKind (nI i) Q := my (n := 7) (by decide) hi (by decide) ⟨Or.inr rfl, h⟩
theorem m_n_isKind {x : Int32} (ho : Out 7 x) {Q : Int32 → Prop} (h : Q 0) : pX5_isKind x Q := mn (n := 7) (by decide) ho (by decide) ⟨Or.inl rfl, h⟩
theorem m_y_isSpot {i : Nat} (hi : i < 10) {Q : Int32 → Prop} (h : Q 1) : pX5_isSpot (nI i) Q := my (n := 10) (by decide) hi (by decide) ⟨Or.inr rfl, h⟩
theorem m_n_isSpot {x : Int32} (ho : Out 10 x) {Q : Int32 → Prop} (h : Q 0) : pX5_isSpot x Q := mn (n := 10) (by decide) ho (by decide) ⟨Or.inl rfl, h⟩
theorem m_y_isSheet {i : Nat} (hi : i < 4) {Q : Int32 → Prop} (h : Q 1) : pX5_isSheet (nI i) Q := my (n := 4) (by decide) hi (by decide) ⟨Or.inr rfl, h⟩
theorem m_n_isSheet {x : Int32} (ho : Out 4 x) {Q : Int32 → Prop} (h : Q 0) : pX5_isSheet x Q := mn (n := 4) (by decide) ho (by decide) ⟨Or.inl rfl, h⟩
theorem c_isListPlace {x : Int32} {Q : Int32 → Prop} (h1 : ∀ i, i < 6 → x = nI i → Q 1) (h0 : Out 6 x → Q 0) : pX4_isListPlace x Q := by
  unfold pX4_isListPlace pX4_isListPlace_14 pX4_isListPlace_15
  rcases in_or 6 (by decide) x with ⟨i, hi, e⟩ | ⟨ho, hx⟩
  · have h2 := h1 i hi e
    subst e
    exact ⟨fun c => absurd c (nI_pos (by omega)), fun _ => ⟨fun c => absurd c (nI_ge hi (by decide)), fun _ => ⟨Or.inr rfl, h2⟩⟩⟩
  · have h2 := h0 ho
    exact ⟨fun _ => ⟨Or.inl rfl, h2⟩, fun c => ⟨fun _ => ⟨Or.inl rfl, h2⟩, fun c2 => absurd hx (fun z => z.elim c c2)⟩⟩
theorem c_isPlace {x : Int32} {Q : Int32 → Prop} (h1 : ∀ i, i < 8 → x = nI i → Q 1) (h0 : Out 8 x → Q 0) : pX4_isPlace x Q := by
  unfold pX4_isPlace pX4_isPlace_14 pX4_isPlace_15
  rcases in_or 8 (by decide) x with ⟨i, hi, e⟩ | ⟨ho, hx⟩
  · have h2 := h1 i hi e
    subst e
    exact ⟨fun c => absurd c (nI_pos (by omega)), fun _ => ⟨fun c => absurd c (nI_ge hi (by decide)), fun _ => ⟨Or.inr rfl, h2⟩⟩⟩
  · have h2 := h0 ho
    exact ⟨fun _ => ⟨Or.inl rfl, h2⟩, fun c => ⟨fun _ => ⟨Or.inl rfl, h2⟩, fun c2 => absurd hx (fun z => z.elim c c2)⟩⟩
theorem c_isKind {x : Int32} {Q : Int32 → Prop} (h1 : ∀ i, i < 7 → x = nI i → Q 1) (h0 : Out 7 x → Q 0) : pX4_isKind x Q := by
  unfold pX4_isKind pX4_isKind_14 pX4_isKind_15
  rcases in_or 7 (by decide) x with ⟨i, hi, e⟩ | ⟨ho, hx⟩
  · have h2 := h1 i hi e
    subst e
    exact ⟨fun c => absurd c (nI_pos (by omega)), fun _ => ⟨fun c => absurd c (nI_ge hi (by decide)), fun _ => ⟨Or.inr rfl, h2⟩⟩⟩
  · have h2 := h0 ho
    exact ⟨fun _ => ⟨Or.inl rfl, h2⟩, fun c => ⟨fun _ => ⟨Or.inl rfl, h2⟩, fun c2 => absurd hx (fun z => z.elim c c2)⟩⟩
theorem c_isSpot {x : Int32} {Q : Int32 → Prop} (h1 : ∀ i, i < 10 → x = nI i → Q 1) (h0 : Out 10 x → Q 0) : pX4_isSpot x Q := by
  unfold pX4_isSpot pX4_isSpot_14 pX4_isSpot_15
  rcases in_or 10 (by decide) x with ⟨i, hi, e⟩ | ⟨ho, hx⟩
  · have h2 := h1 i hi e
    subst e
    exact ⟨fun c => absurd c (nI_pos (by omega)), fun _ => ⟨fun c => absurd c (nI_ge hi (by decide)), fun _ => ⟨Or.inr rfl, h2⟩⟩⟩
  · have h2 := h0 ho
    exact ⟨fun _ => ⟨Or.inl rfl, h2⟩, fun c => ⟨fun _ => ⟨Or.inl rfl, h2⟩, fun c2 => absurd hx (fun z => z.elim c c2)⟩⟩
theorem c_isSheet {x : Int32} {Q : Int32 → Prop} (h1 : ∀ i, i < 4 → x = nI i → Q 1) (h0 : Out 4 x → Q 0) : pX4_isSheet x Q := by
  unfold pX4_isSheet pX4_isSheet_13 pX4_isSheet_14
  rcases in_or 4 (by decide) x with ⟨i, hi, e⟩ | ⟨ho, hx⟩
  · have h2 := h1 i hi e
    subst e
    exact ⟨fun c => absurd c (nI_pos (by omega)), fun _ => ⟨fun c => absurd c (nI_ge hi (by decide)), fun _ => ⟨Or.inr rfl, h2⟩⟩⟩
  · have h2 := h0 ho
    exact ⟨fun _ => ⟨Or.inl rfl, h2⟩, fun c => ⟨fun _ => ⟨Or.inl rfl, h2⟩, fun c2 => absurd hx (fun z => z.elim c c2)⟩⟩
theorem c_isEdge {x : Int32} {Q : Int32 → Prop} (h1 : ∀ i, i < 10 → x = nI i → Q 1) (h0 : Out 10 x → Q 0) : pX4_isEdge x Q := by
  unfold pX4_isEdge pX4_isEdge_14 pX4_isEdge_15
  rcases in_or 10 (by decide) x with ⟨i, hi, e⟩ | ⟨ho, hx⟩
  · have h2 := h1 i hi e
    subst e
    have e9 : (9 : Int32) < nI i ↔ 9 < i := nI_ltI (a := 9) (by decide) (by omega)
    exact ⟨fun c => absurd c (nI_pos (by omega)), fun _ => ⟨fun c => absurd (e9.mp c) (by omega), fun _ => ⟨Or.inr rfl, h2⟩⟩⟩
  · have h2 := h0 ho
    refine ⟨fun _ => ⟨Or.inl rfl, h2⟩, fun c => ⟨fun _ => ⟨Or.inl rfl, h2⟩, fun c2 => ?_⟩⟩
    rcases hx with hx | hx
    · exact absurd hx c
    · refine absurd ?_ c2
      rw [Int32.le_iff_toInt_le, nI_toInt (by decide)] at hx
      rw [Int32.lt_iff_toInt_lt]
      have e9 : (9 : Int32).toInt = 9 := by decide
      omega
theorem c_isToldSum {x : Int32} {Q : Int32 → Prop} (h1 : ∀ i, i < 1000 → x = nI i → Q 1) (h0 : Out 1000 x → Q 0) : pX4_isToldSum x Q := by
  unfold pX4_isToldSum pX4_isToldSum_15 pX4_isToldSum_16
  rcases in_or 1000 (by decide) x with ⟨i, hi, e⟩ | ⟨ho, hx⟩
  · have h2 := h1 i hi e
    subst e
    have e9 : (999 : Int32) < nI i ↔ 999 < i := nI_ltI (a := 999) (by decide) (by omega)
    exact ⟨fun c => absurd c (nI_pos (by omega)), fun _ => ⟨fun c => absurd (e9.mp c) (by omega), fun _ => ⟨Or.inr rfl, h2⟩⟩⟩
  · have h2 := h0 ho
    refine ⟨fun _ => ⟨Or.inl rfl, h2⟩, fun c => ⟨fun _ => ⟨Or.inl rfl, h2⟩, fun c2 => ?_⟩⟩
    rcases hx with hx | hx
    · exact absurd hx c
    · refine absurd ?_ c2
      rw [Int32.le_iff_toInt_le, nI_toInt (by decide)] at hx
      rw [Int32.lt_iff_toInt_lt]
      have e9 : (999 : Int32).toInt = 999 := by decide
      omega
section Inv
variable {M : Nx} {S S' : Nat → Mx} {σ μ μ' : Mx}
theorem m_y_isPiece (hm : Rm M (μ 0)) (h8 : M 8 0 ≤ 8) {i : Nat} (hi : i < M 8 0) {Q : Int32 → Prop} (h : Q 1) : pX5_isPiece μ (nI i) Q := m_isPiece hm h8 (fun _ _ _ => h) (fun ho => absurd rfl (ho i hi))
theorem m_n_isPiece (hm : Rm M (μ 0)) (h8 : M 8 0 ≤ 8) {x : Int32} (ho : Out (M 8 0) x) {Q : Int32 → Prop} (h : Q 0) : pX5_isPiece μ x Q := m_isPiece hm h8 (fun j hj z => absurd z (ho j hj)) (fun _ => h)
def sm7 (f : Nat → Int32) : Int32 := f 0 + f 1 + f 2 + f 3 + f 4 + f 5 + f 6
def Kp (S : Nat → Mx) (μ : Mx) : Prop := (S 5 1 0 = 0 ∧ μ 3 0 = 0) ∨ (S 5 1 0 = 1 ∧ μ 3 0 = 1 ∧ ∃ K, Wf K ∧ Rc K (S 1) ∧ Rm K (μ 1))
def Fi (S : Nat → Mx) (μ : Mx) : Prop := (∀ i, i < 7 → μ 4 (i + 1) = S 5 0 i) ∧ μ 4 0 = sm7 (S 5 0)
def Tp (S : Nat → Mx) (μ : Mx) : Prop := ∃ l, l ≤ 120 ∧ S 4 1 0 = nI l ∧ μ 7 0 = nI l ∧ ∀ j, j < l → ∃ b, b < 256 ∧ S 4 0 j = nI b ∧ μ 6 j = nI b
def Sh1 (S : Nat → Mx) (μ : Mx) (j w z : Nat) : Prop := (w = 0 ∨ w = 8 ∨ w = 16 ∨ w = 32) ∧ z ≤ 40 ∧ S (j + 6) 1 0 = nI w ∧ μ 17 j = nI w ∧ S (j + 6) 2 0 = nI z ∧ μ 18 j = nI z ∧ ∀ k, k < 40 → μ 19 (40 * j + k) = S (j + 6) 0 k
def Sh (S : Nat → Mx) (μ : Mx) : Prop := ∀ j, j < 4 → ∃ w z, Sh1 S μ j w z
def Oth (S : Nat → Mx) (μ : Mx) : Prop := Kp S μ ∧ Fi S μ ∧ Tp S μ ∧ Sh S μ
def Inv (S : Nat → Mx) (μ : Mx) : Prop := ∃ M, Wf M ∧ Rc M (S 0) ∧ Rm M (μ 0) ∧ Oth S μ
def Fs (S S' : Nat → Mx) : Prop := ∀ k, k ≠ 0 → k ≠ 2 → k ≠ 3 → S' k = S k
def Fm (μ μ' : Mx) : Prop := ∀ f, f ≠ 0 → f ≠ 2 → f ≠ 5 → μ' f = μ f
theorem Fs.rfl : Fs S S := fun _ _ _ _ => Eq.refl _
theorem Fm.rfl : Fm μ μ := fun _ _ _ _ => Eq.refl _
theorem Fs.tr {A B C : Nat → Mx} (h : Fs A B) (k : Fs B C) : Fs A C := fun j a b c => (k j a b c).trans (h j a b c)
theorem Fm.tr {A B C : Mx} (h : Fm A B) (k : Fm B C) : Fm A C := fun j a b c => (k j a b c).trans (h j a b c)
theorem Fr0.fm (h : Fr0 μ μ') : Fm μ μ' := fun f a _ _ => h f a
theorem Fs.u0 {u : Mx} : Fs S (va_up S 0 u) := fun _ a _ _ => va_up_ne _ _ a
theorem Fs.u2 {u : Mx} : Fs S (va_up S 2 u) := fun _ _ a _ => va_up_ne _ _ a
theorem Fs.u3 {u : Mx} : Fs S (va_up S 3 u) := fun _ _ _ a => va_up_ne _ _ a
theorem Oth.fr (h : Oth S μ) (hs : Fs S S') (hf : Fm μ μ') : Oth S' μ' := by
  have s1 := hs 1 (by decide) (by decide) (by decide)
  have s4 := hs 4 (by decide) (by decide) (by decide)
  have s5 := hs 5 (by decide) (by decide) (by decide)
  have m1 := hf 1 (by decide) (by decide) (by decide)
  have m3 := hf 3 (by decide) (by decide) (by decide)
  have m4 := hf 4 (by decide) (by decide) (by decide)
  have m6 := hf 6 (by decide) (by decide) (by decide)
  have m7 := hf 7 (by decide) (by decide) (by decide)
  have m17 := hf 17 (by decide) (by decide) (by decide)
  have m18 := hf 18 (by decide) (by decide) (by decide)
  have m19 := hf 19 (by decide) (by decide) (by decide)
  obtain ⟨h1, h2, h3, h4⟩ := h
  refine ⟨?_, ?_, ?_, fun j hj => ?_⟩
  · unfold Kp
    rw [s5, m3, s1, m1]
    exact h1
  · unfold Fi
    rw [s5, m4]
    exact h2
  · unfold Tp
    rw [s4, m6, m7]
    exact h3
  · obtain ⟨w, z, h⟩ := h4 j hj
    refine ⟨w, z, ?_⟩
    unfold Sh1
    rw [hs (j + 6) (by omega) (by omega) (by omega), m17, m18, m19]
    exact h
theorem Oth.inv (h : Oth S μ) (hw : Wf M) (hc : Rc M (S' 0)) (hm : Rm M (μ' 0)) (hs : Fs S S') (hf : Fm μ μ') : Inv S' μ' := ⟨M, hw, hc, hm, h.fr hs hf⟩
def fS (S : Nat → Mx) (k : Nat) : Nat → Mx := va_up S 5 (st (S 5) 0 k (S 5 0 k + 1))
theorem c_found (k : Nat) (hk : k < 7) {x : Int32} (hx : x = nI k) {Q : Int32 → (Nat → Mx) → Prop} (h : Q ((-1000001) - nI k) (fS S k)) : pX4_found S x Q := by
  subst hx
  unfold pX4_found
  rw [nI_clamp (by omega)]
  exact ⟨vp_in_nI hk (by decide), vp_in_nI hk (by decide), h⟩
theorem sm7_st : ∀ k, k < 7 → ∀ f : Nat → Int32, sm7 (fun j => if j = k then f k + 1 else f j) = sm7 f + 1 := by
  intro k hk f
  have e : k = 0 ∨ k = 1 ∨ k = 2 ∨ k = 3 ∨ k = 4 ∨ k = 5 ∨ k = 6 := by omega
  unfold sm7
  rcases e with e | e | e | e | e | e | e <;> subst e <;> simp <;> ac_rfl
theorem fin_k : ∀ k, k < 7 → (-1000001 : Int32) - ((-1000001) - nI k) = nI k := by decide +kernel
theorem fin (hI : Inv S μ) (k : Nat) (hk : k < 7) {c : Int32} (hc : c = (-1000001) - nI k) : pX5_finding μ c (fun r1 u1 => (-1000001) - nI k = r1 ∧ Inv (fS S k) u1) := by
  obtain ⟨M, hw, h0, hm, h1, h2, h3, h4⟩ := hI
  have e1 : ((-1000001) - c) + 1 = nI (k + 1) := by
    subst hc
    have e : (-1000001 : Int32) - ((-1000001) - nI k) = nI k := fin_k k hk
    rw [e, nI_1]
  unfold pX5_finding
  rw [e1, nI_clamp (by omega), m_0]
  have v1 : vp_in (nI (k + 1)) 8 := vp_in_nI (by omega) (by decide)
  have v0 : vp_in 0 8 := v_0 (by decide) (by decide)
  refine ⟨v1, v1, v0, v0, hc.symm, M, hw, h0, ?_, ?_, ⟨?_, ?_⟩, ?_, ?_⟩
  · rw [st_nf (by decide), st_nf (by decide)]
    exact hm
  · unfold Kp fS
    rw [va_up_self, va_up_ne _ _ (by decide), st_nf (by decide), st_nf (by decide), st_nf (by decide), st_nf (by decide), st_nf (by decide)]
    exact h1
  · intro i hi
    have hj := h2.1 i hi
    have hk' := h2.1 k hk
    unfold fS
    rw [va_up_self, st_off (by omega)]
    by_cases e : i = k
    · subst e
      rw [st_at, st_at, hj]
    · rw [st_off (by omega), st_off e]
      exact hj
  · unfold fS
    rw [va_up_self, st_at, st_off (by omega), h2.2, ← sm7_st k hk]
    congr 1
    funext j
    unfold st
    by_cases e : j = k
    · rw [if_pos e, if_pos ⟨rfl, e⟩]
    · rw [if_neg e, if_neg (fun z => e z.2)]
  · unfold Tp fS
    rw [va_up_ne _ _ (by decide), st_nf (by decide), st_nf (by decide), st_nf (by decide), st_nf (by decide)]
    exact h3
  · intro j hj
    obtain ⟨w, z, h⟩ := h4 j hj
    refine ⟨w, z, ?_⟩
    unfold Sh1 fS
    rw [va_up_ne _ _ (by omega), st_nf (by decide), st_nf (by decide), st_nf (by decide), st_nf (by decide), st_nf (by decide), st_nf (by decide)]
    exact h
end Inv
