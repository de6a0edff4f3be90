section Pure
variable {M : Nx} {σ : Mx}
/-- not one of the first n -/
def Out (n : Nat) (x : Int32) : Prop := ∀ i, i < n → x ≠ nI i
theorem in_or (n : Nat) (hn : n < 2 ^ 31) (x : Int32) : (∃ i, i < n ∧ x = nI i) ∨ (Out n x ∧ (x < 0 ∨ nI n ≤ x)) := by
  rcases pk_ix x hn with h | h | h
  · refine Or.inr ⟨fun i hi e => ?_, Or.inl h⟩
    rw [e] at h
    exact nI_pos (by omega) h
  · refine Or.inr ⟨fun i hi e => ?_, Or.inr h⟩
    rw [e] at h
    exact nI_ge hi (by omega) h
  · exact Or.inl h
theorem c_has (hr : Rc M σ) (h8 : M 8 0 ≤ 8) {x : Int32} {Q : Int32 → Prop} (h1 : ∀ i, i < M 8 0 → x = nI i → Q 1) (h0 : Out (M 8 0) x → Q 0) : pX1_has σ x Q := by
  unfold pX1_has pX1_has_16 pX1_has_17
  rw [hr.1]
  rcases in_or (M 8 0) (by omega) x with ⟨i, hi, e⟩ | ⟨ho, hx⟩
  · have h2 := h1 i hi e
    subst e
    exact ⟨fun c => absurd c (nI_pos (by omega)), fun _ => ⟨fun c => absurd c (nI_ge hi (by omega)), fun _ => ⟨Or.inr rfl, h2⟩⟩⟩
  · have h2 := h0 ho
    exact ⟨fun _ => ⟨Or.inl rfl, h2⟩, fun c => ⟨fun _ => ⟨Or.inl rfl, h2⟩, fun c2 => absurd hx (fun z => z.elim c c2)⟩⟩
theorem m_within {x lo hi : Int32} {Q : Int32 → Prop} (h1 : ¬ x < lo → ¬ hi < x → Q 1) (h0 : (x < lo ∨ hi < x) → Q 0) : pX5_within x lo hi Q := by
  unfold pX5_within pX5_within_14 pX5_within_15
  exact ⟨fun c => ⟨Or.inl rfl, h0 (Or.inl c)⟩, fun c => ⟨fun c2 => ⟨Or.inl rfl, h0 (Or.inr c2)⟩, fun c2 => ⟨Or.inr rfl, h1 c c2⟩⟩⟩
/-- within 0 and n - 1 -/
theorem m_in {n : Nat} (hn : n < 2 ^ 30) {x hi : Int32} (hh : hi = nI n - 1) {Q : Int32 → Prop} (h1 : ∀ i, i < n → x = nI i → Q 1) (h0 : Out n x → Q 0) : pX5_within x 0 hi Q := by
  subst hh
  have e1 : (nI n - 1).toInt = (n : Int) - 1 := pk_sub_toInt (b := 1) hn (by decide)
  rcases in_or n (by omega) x with ⟨i, hi, e⟩ | ⟨ho, hx⟩
  · have h2 := h1 i hi e
    subst e
    refine m_within (fun _ _ => h2) (fun c => ?_)
    rcases c with c | c
    · exact absurd c (nI_pos (by omega))
    · rw [Int32.lt_iff_toInt_lt, e1, nI_toInt (by omega)] at c
      omega
  · have h2 := h0 ho
    refine m_within (fun c c2 => ?_) (fun _ => h2)
    rcases hx with hx | hx
    · exact absurd hx c
    · refine absurd ?_ c2
      rw [Int32.le_iff_toInt_le, nI_toInt (by omega)] at hx
      rw [Int32.lt_iff_toInt_lt, e1]
      omega
theorem m_isPiece (hr : Rm M (σ 0)) (h8 : M 8 0 ≤ 8) {x : Int32} {Q : Int32 → Prop} (h1 : ∀ i, i < M 8 0 → x = nI i → Q 1) (h0 : Out (M 8 0) x → Q 0) : pX5_isPiece σ x Q := by
  unfold pX5_isPiece
  rw [show (1 : Int32).toNatClampNeg = 1 from rfl, hr.2.1]
  exact ⟨vp_in_nI (n := 1) (by decide) (by decide), m_in (by omega) rfl (fun i hi e => ⟨Or.inr rfl, h1 i hi e⟩) (fun z => ⟨Or.inl rfl, h0 z⟩)⟩
theorem m_at (p f : Nat) : (19 + (5 * nI p)) + nI f = nI (19 + 5 * p + f) := by
  have e1 : (5 : Int32) * nI p = nI (5 * p) := pk_mul 5 p
  have e2 : (19 : Int32) + nI (5 * p) = nI (19 + 5 * p) := nI_add 19 (5 * p)
  rw [e1, e2, nI_add]
theorem m_pieceAt {p f : Nat} {Q : Int32 → Prop} (h : Q (nI (19 + 5 * p + f))) : pX5_pieceAt (nI p) (nI f) Q := by
  unfold pX5_pieceAt
  rw [m_at]
  exact h
theorem m_pieceIs {p f : Nat} (hp : p < 8) (hf : f < 5) {Q : Int32 → Prop} (h : Q (σ 0 (19 + 5 * p + f))) : pX5_pieceIs σ (nI p) (nI f) Q := by
  unfold pX5_pieceIs
  refine m_pieceAt ⟨vp_in_nI (by omega) (by decide), ?_⟩
  rw [nI_clamp (by omega)]
  exact h
theorem m_f0 (hw : Wf M) (hr : Rm M (σ 0)) {p : Nat} (hp : p < M 8 0) {Q : Int32 → Prop} (h : Q (nI (M 0 p))) : pX5_pieceIs σ (nI p) 0 Q := by
  have h8 := hw.1
  exact m_pieceIs (f := 0) (by omega) (by decide) (by rw [Nat.add_zero, (hr.2.2.2.2.2.1 p hp).1]; exact h)
theorem m_f1 (hw : Wf M) (hr : Rm M (σ 0)) {p : Nat} (hp : p < M 8 0) {Q : Int32 → Prop} (h : Q (nI (M 1 p))) : pX5_pieceIs σ (nI p) 1 Q := by
  have h8 := hw.1
  exact m_pieceIs (f := 1) (by omega) (by decide) (by rw [(hr.2.2.2.2.2.1 p hp).2.1]; exact h)
theorem m_f2 (hw : Wf M) (hr : Rm M (σ 0)) {p : Nat} (hp : p < M 8 0) {Q : Int32 → Prop} (h : Q (nI (M 2 p))) : pX5_pieceIs σ (nI p) 2 Q := by
  have h8 := hw.1
  exact m_pieceIs (f := 2) (by omega) (by decide) (by rw [(hr.2.2.2.2.2.1 p hp).2.2.1]; exact h)
theorem m_f3 (hw : Wf M) (hr : Rm M (σ 0)) {p : Nat} (hp : p < M 8 0) {Q : Int32 → Prop} (h : Q (nI (M 3 p) - 1)) : pX5_pieceIs σ (nI p) 3 Q := by
  have h8 := hw.1
  exact m_pieceIs (f := 3) (by omega) (by decide) (by rw [(hr.2.2.2.2.2.1 p hp).2.2.2.1]; exact h)
theorem m_f4 (hw : Wf M) (hr : Rm M (σ 0)) {p : Nat} (hp : p < M 8 0) {Q : Int32 → Prop} (h : Q (nI (M 7 p))) : pX5_pieceIs σ (nI p) 4 Q := by
  have h8 := hw.1
  exact m_pieceIs (f := 4) (by omega) (by decide) (by rw [(hr.2.2.2.2.2.1 p hp).2.2.2.2]; exact h)
theorem m_side (hw : Wf M) (hr : Rm M (σ 0)) {p s : Nat} (hp : p < M 8 0) (hs : s < 2) {Q : Int32 → Prop} (h : Q (nI (if s = 0 then slN M p else srN M p))) : pX5_side σ (nI p) (nI s) Q := by
  have h7 := hw.tle p hp
  unfold pX5_side pX5_side_17
  refine m_f4 hw hr hp ?_
  have key1 : (M 7 p = s → pX5_pieceIs σ (nI p) 1 (fun r => Q r)) := by
    intro e
    refine m_f1 hw hr hp ?_
    have e9 : (if s = 0 then slN M p else srN M p) = M 1 p := by
      unfold slN srN
      rw [e]
      by_cases e0 : s = 0
      · simp [e0]
      · simp [e0]
    rw [e9] at h
    exact h
  have key2 : (M 7 p ≠ s → pX5_pieceIs σ (nI p) 2 (fun r => Q r)) := by
    intro e
    refine m_f2 hw hr hp ?_
    have e9 : (if s = 0 then slN M p else srN M p) = M 2 p := by
      unfold slN srN
      by_cases e0 : s = 0
      · have e1 : ¬ M 7 p = 0 := by omega
        simp [e0, e1]
      · have e1 : M 7 p = 0 := by omega
        simp [e0, e1]
    rw [e9] at h
    exact h
  have he : nI (M 7 p) = nI s ↔ M 7 p = s := nI_eq (by omega) (by omega)
  exact ⟨fun c => key2 (fun z => c (he.mpr z)), fun c => key1 (he.mp c)⟩
theorem m_isSky (hw : Wf M) (hr : Rm M (σ 0)) {p : Nat} (hp : p < M 8 0) {Q : Int32 → Prop} (h1 : (2 ≤ M 0 p ∧ M 0 p ≤ 4) → Q 1) (h0 : ¬ (2 ≤ M 0 p ∧ M 0 p ≤ 4) → Q 0) : pX5_isSky σ (nI p) Q := by
  have hk := (hw.2.2.2.1 p hp).1
  unfold pX5_isSky
  refine m_f0 hw hr hp ?_
  have e1 : nI (M 0 p) < 2 ↔ M 0 p < 2 := nI_ltI (b := 2) (by omega) (by decide)
  have e2 : 4 < nI (M 0 p) ↔ 4 < M 0 p := nI_ltI (a := 4) (by decide) (by omega)
  refine m_within (fun c c2 => ⟨Or.inr rfl, h1 ?_⟩) (fun c => ⟨Or.inl rfl, h0 ?_⟩)
  · rw [e1] at c
    rw [e2] at c2
    omega
  · rw [e1, e2] at c
    omega
theorem m_gap (hw : Wf M) (hr : Rm M (σ 0)) {a b : Nat} (ha : a < M 8 0) (hb : b < M 8 0) {Q : Int32 → Prop} (h : Q (nI (gapN M a b))) : pX5_gapOf σ (nI a) (nI b) Q := by
  have h8 := hw.1
  have hwa := hw.2.2.2.1 a ha
  have hwb := hw.2.2.2.1 b hb
  have hsr := srN_lt hw ha
  have hsl := slN_lt hw hb
  have hd := dst_lt hsr hsl
  unfold pX5_gapOf
  refine m_side (s := 1) hw hr ha (by decide) (m_side (s := 0) hw hr hb (by decide) ?_)
  have e1 : (if (1 : Nat) = 0 then slN M a else srN M a) = srN M a := rfl
  have e2 : (if (0 : Nat) = 0 then slN M b else srN M b) = slN M b := rfl
  rw [e1, e2]
  intro v13 e13
  rw [absN (by omega) (by omega)] at e13
  subst e13
  refine m_f3 hw hr ha ?_
  have key : ∀ fm : Nat, fm < 10 → (fm = if M 3 a = b + 1 then 0 else dst (srN M a) (slN M b)) → pX5_gapOf_32 σ Q (nI a) (nI b) (nI (dst (srN M a) (slN M b))) (nI fm) := by
    intro fm hfm efm
    unfold pX5_gapOf_32
    have key2 : ∀ sk : Nat, sk < 11 → (sk = if 2 ≤ M 0 b ∧ M 0 b ≤ 4 then 0 else dst (srN M a) (slN M b) + 1) → pX5_gapOf_49 σ Q (nI a) (nI (dst (srN M a) (slN M b))) (nI fm) (nI sk) := by
      intro sk hsk esk
      unfold pX5_gapOf_49 pX5_gapOf_135
      refine m_f0 hw hr ha ?_
      rw [show (0 : Int32).toNatClampNeg = 0 from rfl, hr.1]
      have h9 := gapSw hwa.1 hd hfm hsk hw.2.1 (Q := Q) (by rw [efm, esk]; exact h)
      exact ⟨h9.1, h9.2.1, h9.2.2.1, fun c => ⟨vp_in_nI (n := 0) (by decide) (by decide), h9.2.2.2.1 c⟩, h9.2.2.2.2⟩
    refine m_isSky hw hr hb (fun z => ?_) (fun z => ?_)
    · exact ⟨fun c => absurd c (by decide), fun _ => key2 0 (by omega) (by rw [if_pos z])⟩
    · refine ⟨fun _ => ?_, fun c => absurd rfl c⟩
      have e9 : nI (dst (srN M a) (slN M b)) + 1 = nI (dst (srN M a) (slN M b) + 1) := nI_1 _
      rw [e9]
      exact key2 _ (by omega) (by rw [if_neg z])
  refine ⟨fun c => key _ hd ?_, fun c => key 0 (by omega) ?_⟩
  · rw [if_neg]
    intro z
    exact c ((m1_eq (by omega) (by omega)).mpr z)
  · rw [if_pos]
    exact (m1_eq (by omega) (by omega)).mp c
theorem m_edge (hw : Wf M) (hr : Rm M (σ 0)) {p s : Nat} (hp : p < M 8 0) (hs : s < 2) {Q : Int32 → Prop} (h : Q (nI (edgeN M p s))) : pX5_edgeOf σ (nI p) (nI s) Q := by
  have h8 := hw.1
  have hwp := hw.2.2.2.1 p hp
  have h1 := slN_lt hw hp
  have h2 := srN_lt hw hp
  unfold pX5_edgeOf pX5_edgeOf_50
  refine m_side hw hr hp hs (m_f0 hw hr hp ?_)
  unfold edgeN at h
  generalize he9 : (if s = 0 then slN M p else srN M p) = e at h ⊢
  have he : e < 10 := by
    rw [← he9]
    split <;> omega
  have e1 : nI e / 2 = nI (e / 2) := div2 (by omega)
  refine swE hwp.1 rfl (fun z => ?_) (fun z => ?_) (fun z => ?_) (fun z => ?_) (fun z => ?_) (fun a2 a3 a4 a5 a6 => ?_)
  · rw [z] at h; rw [e1]; exact h
  · rw [z] at h; rw [e1]; exact h
  · rw [z] at h
    have e2 : nI (e / 2) + 1 = nI (e / 2 + 1) := nI_1 _
    rw [e1, e2]; exact h
  · rw [z] at h
    have e2 : (9 : Int32) - nI e = nI (9 - e) := pk_sub (a := 9) (by omega)
    rw [e2]; exact h
  · rw [z] at h; exact h
  · have e9 : edgeK (M 0 p) e = e := by simp [edgeK, a2, a3, a4, a5, a6]
    rw [e9] at h; exact h
theorem m_row (i : Nat) : 59 + nI i = nI (59 + i) := nI_add 59 i
theorem m_sum (hw : Wf M) (hr : Rm M (σ 0)) {Q : Int32 → Prop} (h : Q (nI (sumN M))) : pX5_sumNow σ Q := by
  have h8 := hw.1
  have hn := hr.2.1
  unfold pX5_sumNow
  rw [show (1 : Int32).toNatClampNeg = 1 from rfl, show (59 : Int32).toNatClampNeg = 59 + 0 from rfl, hn]
  refine ⟨vp_in_nI (n := 1) (by decide) (by decide), ?_⟩
  intro v6 e6
  subst e6
  have key : ∀ (E : Nat), E < 20 → ∀ (d i : Nat), i + d + 1 = M 8 0 → Q (nI (E + gapsN M (M 8 0 - 1))) → pX5_sumNow_47 σ Q (d + 1) (nI (M 8 0)) (nI (E + gapsN M i)) (nI (i + 1)) := by
    intro E hE d
    induction d with
    | zero =>
      intro i hi hq
      show pX5_sumNow_47s σ _ Q _ _ _
      unfold pX5_sumNow_47s
      refine pk_le (M 8 0) (i + 1) (fun _ => ?_) (fun z => by omega)
      rw [show M 8 0 - 1 = i by omega] at hq
      exact hq
    | succ d ih =>
      intro i hi hq
      show pX5_sumNow_47s σ (pX5_sumNow_47 σ Q (d + 1)) Q _ _ _
      unfold pX5_sumNow_47s
      refine pk_le (M 8 0) (i + 1) (fun z => by omega) (fun _ => ?_)
      have e1 : (59 + nI (i + 1)) - 1 = nI (59 + i) := by
        rw [m_row]
        exact nI_pred (59 + i)
      rw [e1, m_row, nI_clamp (show 59 + i < 2 ^ 31 by omega), nI_clamp (show 59 + (i + 1) < 2 ^ 31 by omega), hr.2.2.2.2.2.2 i (by omega), hr.2.2.2.2.2.2 (i + 1) (by omega)]
      refine ⟨vp_in_nI (by omega) (by decide), vp_in_nI (by omega) (by decide), m_gap hw hr (hw.2.2.2.1 i (by omega)).2.2.2.2.2 (hw.2.2.2.1 (i + 1) (by omega)).2.2.2.2.2 ?_⟩
      intro v78 e78
      rw [nI_add] at e78
      subst e78
      have e3 : nI (i + 1) + 1 = nI (i + 1 + 1) := nI_1 _
      have h9 := ih (i + 1) (by omega) hq
      rw [gapsN, ← Nat.add_assoc] at h9
      rw [e3]
      exact h9
  by_cases e0 : M 8 0 = 0
  · refine ⟨fun c => absurd (by rw [e0]; rfl) c, fun _ => ?_⟩
    have e9 : sumN M = 0 := by unfold sumN; rw [if_pos e0]
    rw [e9] at h
    unfold pX5_sumNow_44
    refine ⟨1, ?_⟩
    show pX5_sumNow_47s σ _ Q _ _ _
    unfold pX5_sumNow_47s
    exact pk_le (M 8 0) 1 (fun _ => h) (fun z => by omega)
  · refine ⟨fun _ => ?_, fun c => absurd c (nI_ne0 (by omega) (by omega))⟩
    have e1 : (59 + nI (M 8 0)) - 1 = nI (59 + (M 8 0 - 1)) := by
      rw [m_row, show 59 + M 8 0 = (59 + (M 8 0 - 1)) + 1 by omega]
      exact nI_pred _
    rw [e1, nI_clamp (show 59 + (M 8 0 - 1) < 2 ^ 31 by omega), hr.2.2.2.2.2.2 0 (by omega), hr.2.2.2.2.2.2 (M 8 0 - 1) (by omega)]
    have hp0 := (hw.2.2.2.1 0 (by omega)).2.2.2.2.2
    have hp1 := (hw.2.2.2.1 (M 8 0 - 1) (by omega)).2.2.2.2.2
    have he0 := edgeN_lt (s := 0) hw hp0
    have he1 := edgeN_lt (s := 1) hw hp1
    refine ⟨vp_in_nI (n := 59) (by decide) (by decide), m_edge (s := 0) hw hr hp0 (by decide) ⟨vp_in_nI (by omega) (by decide), m_edge (s := 1) hw hr hp1 (by decide) ?_⟩⟩
    rw [nI_add]
    refine ⟨_, key (edgeN M (M 4 0) 0 + edgeN M (M 4 (M 8 0 - 1)) 1) (by omega) (M 8 0 - 1) 0 (by omega) ?_⟩
    have e9 : sumN M = edgeN M (M 4 0) 0 + edgeN M (M 4 (M 8 0 - 1)) 1 + gapsN M (M 8 0 - 1) := by
      unfold sumN
      rw [if_neg e0]
    rw [← e9]
    exact h
end Pure
