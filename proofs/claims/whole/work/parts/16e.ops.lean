/-! branches -/
theorem t1 {A B : Prop} (h : B) : ((1 : Int32) = 0 → A) ∧ (¬ (1 : Int32) = 0 → B) := ⟨fun c => absurd c (by decide), fun _ => h⟩
theorem t0 {A B : Prop} (h : A) : ((0 : Int32) = 0 → A) ∧ (¬ (0 : Int32) = 0 → B) := ⟨fun _ => h, fun c => absurd rfl c⟩
theorem t1' {A B : Prop} (h : B) : (¬ (1 : Int32) = 0 → B) ∧ ((1 : Int32) = 0 → A) := ⟨fun _ => h, fun c => absurd c (by decide)⟩
theorem t0' {A B : Prop} (h : A) : (¬ (0 : Int32) = 0 → B) ∧ ((0 : Int32) = 0 → A) := ⟨fun c => absurd rfl c, fun _ => h⟩
theorem b_eq {a b : Nat} (ha : a < 2 ^ 31) (hb : b < 2 ^ 31) {A B : Prop} (f : a = b → A) (g : a ≠ b → B) : (nI a = nI b → A) ∧ (¬ nI a = nI b → B) := ⟨fun c => f ((nI_eq ha hb).mp c), fun c => g (fun z => c ((nI_eq ha hb).mpr z))⟩
theorem b_eq' {a b : Nat} (ha : a < 2 ^ 31) (hb : b < 2 ^ 31) {A B : Prop} (f : a = b → A) (g : a ≠ b → B) : (¬ nI a = nI b → B) ∧ (nI a = nI b → A) := ⟨fun c => g (fun z => c ((nI_eq ha hb).mpr z)), fun c => f ((nI_eq ha hb).mp c)⟩
theorem b_le {a b : Nat} (ha : a < 2 ^ 31) (hb : b < 2 ^ 31) {A B : Prop} (f : a ≤ b → A) (g : b < a → B) : (nI a ≤ nI b → A) ∧ (¬ nI a ≤ nI b → B) := ⟨fun c => f ((nI_leI ha hb).mp c), fun c => g (Nat.lt_of_not_le (fun z => c ((nI_leI ha hb).mpr z)))⟩
theorem b_lt {a b : Nat} (ha : a < 2 ^ 31) (hb : b < 2 ^ 31) {A B : Prop} (f : a < b → A) (g : b ≤ a → B) : (nI a < nI b → A) ∧ (¬ nI a < nI b → B) := ⟨fun c => f ((nI_ltI ha hb).mp c), fun c => g (Nat.le_of_not_lt (fun z => c ((nI_ltI ha hb).mpr z)))⟩
/-- only the row of what is now changes -/
def Fr0 (μ μ' : Mx) : Prop := ∀ f, f ≠ 0 → μ' f = μ f
theorem Fr0.rfl {μ : Mx} : Fr0 μ μ := fun _ _ => Eq.refl _
theorem Fr0.tr {a b c : Mx} (h : Fr0 a b) (k : Fr0 b c) : Fr0 a c := fun f hf => (k f hf).trans (h f hf)
theorem Fr0.st {μ : Mx} {j : Nat} {x : Int32} : Fr0 μ (st μ 0 j x) := fun _ hf => st_nf hf
theorem lst {P : Nat → Prop} : ∀ n, P n → ∃ j, j ≤ n ∧ P j ∧ ∀ i, i < j → ¬ P i := by
  intro n
  induction n using Nat.strongRecOn with
  | _ n ih =>
    intro h
    by_cases e : ∃ i, i < n ∧ P i
    · obtain ⟨i, hi, hp⟩ := e
      obtain ⟨j, hj, h1, h2⟩ := ih i hi hp
      exact ⟨j, by omega, h1, h2⟩
    · exact ⟨n, Nat.le_refl n, h, fun i hi hp => e ⟨i, hi, hp⟩⟩
theorem posE (M : Nx) (p : Nat) : ∃ j, (∃ k, M 4 k = p ∧ ∀ i, i < k → M 4 i ≠ p) → (M 4 j = p ∧ ∀ i, i < j → M 4 i ≠ p) := by
  by_cases h : ∃ k, M 4 k = p ∧ ∀ i, i < k → M 4 i ≠ p
  · obtain ⟨k, hk⟩ := h
    exact ⟨k, fun _ => hk⟩
  · exact ⟨0, fun z => absurd z h⟩
noncomputable def posN (M : Nx) (p : Nat) : Nat := Classical.choose (posE M p)
section Pure
variable {M : Nx} {σ μ : Mx}
theorem Wf.pos (hw : Wf M) {p : Nat} (hp : p < M 8 0) : posN M p < M 8 0 ∧ M 4 (posN M p) = p ∧ ∀ i, i < posN M p → M 4 i ≠ p := by
  obtain ⟨i, hi, he⟩ := hw.2.2.2.2.1 p hp
  obtain ⟨j, hj, h1, h2⟩ := lst (P := fun k => M 4 k = p) i he
  have h : ∃ j, M 4 j = p ∧ ∀ i, i < j → M 4 i ≠ p := ⟨j, h1, h2⟩
  have h3 : M 4 (posN M p) = p ∧ ∀ i, i < posN M p → M 4 i ≠ p := Classical.choose_spec (posE M p) h
  refine ⟨?_, h3⟩
  by_cases z : i < posN M p
  · exact absurd he (h3.2 i z)
  · omega
theorem Wf.row (hw : Wf M) {i : Nat} (hi : i < M 8 0) : M 4 i < M 8 0 := (hw.2.2.2.1 i hi).2.2.2.2.2
theorem c_place (hw : Wf M) (hr : Rc M σ) {p : Nat} (hp : p < M 8 0) {Q : Int32 → Prop} (h : Q (nI (posN M p))) : pX1_placeOf σ (nI p) Q := by
  have h8 := hw.1
  obtain ⟨g1, g2, g3⟩ := hw.pos hp
  have key : ∀ d i, i + d = posN M p → pX1_placeOf_2 σ Q (d + 1) (nI p) (nI i) := by
    intro d
    induction d with
    | zero =>
      intro i hi
      show pX1_placeOf_2s σ _ Q _ _
      unfold pX1_placeOf_2s pX1_placeOf_26
      rw [hr.1, nI_clamp (by omega), (hr.2.2.2.1 i (by omega)).2.2.2.2]
      have e : i = posN M p := by omega
      subst e
      exact b_le (by omega) (by omega) (fun z => by omega) (fun _ => ⟨vp_in_nI (by omega) (by decide), by rw [g2]; exact ⟨fun _ => h, fun c => absurd rfl c⟩⟩)
    | succ d ih =>
      intro i hi
      show pX1_placeOf_2s σ (pX1_placeOf_2 σ Q (d + 1)) Q _ _
      unfold pX1_placeOf_2s
      rw [hr.1, nI_clamp (by omega), (hr.2.2.2.1 i (by omega)).2.2.2.2]
      have h4 := hw.row (i := i) (by omega)
      refine b_le (by omega) (by omega) (fun z => by omega) (fun _ => ⟨vp_in_nI (by omega) (by decide), b_eq (by omega) (by omega) (fun z => absurd z (g3 i (by omega))) (fun _ => ?_)⟩)
      rw [nI_1]
      exact ih (i + 1) (by omega)
  exact ⟨_, key (posN M p) 0 (by omega)⟩
theorem m_at59 {i : Nat} (h : i < 8) : (59 + nI i).toNatClampNeg = 59 + i := by
  rw [m_row, nI_clamp (by omega)]
theorem m_in59 {i : Nat} (h : i < 8) : vp_in (59 + nI i) 67 := by
  rw [m_row]
  exact vp_in_nI (by omega) (by decide)
theorem m_where (hw : Wf M) (hr : Rm M (μ 0)) {p : Nat} (hp : p < M 8 0) {Q : Int32 → Prop} (h : Q (nI (posN M p))) : pX5_whereLies μ (nI p) Q := by
  have h8 := hw.1
  obtain ⟨g1, g2, g3⟩ := hw.pos hp
  have key : ∀ d i, i + d = posN M p → pX5_whereLies_2 μ Q (d + 1) (nI p) (nI i) := by
    intro d
    induction d with
    | zero =>
      intro i hi
      show pX5_whereLies_2s μ _ Q _ _
      unfold pX5_whereLies_2s
      rw [m_at59 (by omega), hr.2.2.2.2.2.2 i (by omega)]
      have e : i = posN M p := by omega
      subst e
      exact ⟨m_in59 (by omega), by rw [g2]; exact ⟨fun _ => h, fun c => absurd rfl c⟩⟩
    | succ d ih =>
      intro i hi
      show pX5_whereLies_2s μ (pX5_whereLies_2 μ Q (d + 1)) Q _ _
      unfold pX5_whereLies_2s
      rw [m_at59 (by omega), hr.2.2.2.2.2.2 i (by omega)]
      have h4 := hw.row (i := i) (by omega)
      refine ⟨m_in59 (by omega), b_eq (by omega) (by omega) (fun z => absurd z (g3 i (by omega))) (fun _ => ?_)⟩
      rw [nI_1]
      exact ih (i + 1) (by omega)
  exact ⟨_, key (posN M p) 0 (by omega)⟩
theorem c_grows (hw : Wf M) (hr : Rc M σ) {p : Nat} (hp : p < M 8 0) {Q : Int32 → Prop} (h : Q (nI (growK (M 0 p)))) : pX1_growsOf σ (nI p) Q := by
  have h8 := hw.1
  unfold pX1_growsOf
  intro v5 e5 v9 e9
  subst e5 e9
  refine ⟨vp_in_nI (by omega) (by decide), ?_⟩
  intro v17 e17
  rw [nI_clamp (by omega), (hr.2.2.2.1 p hp).1] at e17
  refine swK (hw.2.2.2.1 p hp).1 e17 (fun z => ?_) (fun z => ?_) (fun z => ?_) (fun z => ?_) (fun z => ?_) (fun z => ?_) (fun a1 a2 a3 a4 a5 a6 => ?_)
  · rw [z] at h; exact h
  · rw [z] at h; exact h
  · rw [z] at h; exact h
  · rw [z] at h; exact h
  · rw [z] at h; exact h
  · rw [z] at h; exact h
  · have e : growK (M 0 p) = 1 := by simp [growK, a1, a2, a3, a4, a5, a6]
    rw [e] at h; exact h
theorem m_grows (hw : Wf M) (hr : Rm M (μ 0)) {p : Nat} (hp : p < M 8 0) {Q : Int32 → Prop} (h : Q (nI (growK (M 0 p)))) : pX5_grows μ (nI p) Q := by
  have h8 := hw.1
  unfold pX5_grows pX5_grows_44
  refine m_f0 hw hr hp ?_
  refine swK (hw.2.2.2.1 p hp).1 rfl (fun z => ?_) (fun z => ?_) (fun z => ?_) (fun z => ?_) (fun z => ?_) (fun z => ?_) (fun a1 a2 a3 a4 a5 a6 => ?_)
  · rw [z] at h; exact h
  · rw [z] at h; exact h
  · rw [z] at h; exact h
  · rw [z] at h; exact h
  · rw [z] at h; exact h
  · rw [z] at h; exact h
  · have e : growK (M 0 p) = 1 := by simp [growK, a1, a2, a3, a4, a5, a6]
    rw [e] at h; exact h
theorem growK_lt {k : Nat} : growK k < 9 := by
  unfold growK
  repeat' split
  all_goals omega
/-- what a piece is told to be -/
noncomputable def toldN (M : Nx) (p w : Nat) : Int32 := if w = 0 then nI (M 0 p) else if w = 1 then nI (M 1 p) else if w = 2 then nI (M 2 p) else if w = 3 then nI (M 3 p) - 1 else if w = 4 then nI (M 7 p) else if w = 5 then nI (posN M p) else nI (growK (M 0 p))
theorem c_told (hw : Wf M) (hr : Rc M σ) {p w : Nat} (hp : p < M 8 0) (hw7 : w < 7) {Q : Int32 → Prop} (h : Q (toldN M p w)) : pX1_told σ (nI p) (nI w) Q := by
  have h8 := hw.1
  have hv : vp_in (nI p) 8 := vp_in_nI (by omega) (by decide)
  have hc := hr.2.2.2.1 p hp
  have e : ∀ j : Nat, j < 7 → (nI w = nI j ↔ w = j) := fun j hj => nI_eq (by omega) (by omega)
  unfold pX1_told
  rw [nI_clamp (by omega), hc.1, hc.2.1, hc.2.2.1, hc.2.2.2.1, c_bit hw hr hp]
  refine ⟨fun c => ⟨hv, ?_⟩, fun c => ⟨hv, ?_⟩, fun c => ⟨hv, ?_⟩, fun c => ⟨hv, ?_⟩, fun c => ?_, fun c => c_place hw hr hp ?_, fun c0 c1 c2 c3 c4 c5 => c_grows hw hr hp ?_⟩
  · rw [(e 0 (by decide)).mp c] at h; exact h
  · rw [(e 1 (by decide)).mp c] at h; exact h
  · rw [(e 2 (by decide)).mp c] at h; exact h
  · rw [(e 3 (by decide)).mp c] at h; exact h
  · rw [(e 4 (by decide)).mp c] at h; exact h
  · rw [(e 5 (by decide)).mp c] at h; exact h
  · have g : w = 6 := by
      have d0 : w ≠ 0 := fun z => c0 ((e 0 (by decide)).mpr z)
      have d1 : w ≠ 1 := fun z => c1 ((e 1 (by decide)).mpr z)
      have d2 : w ≠ 2 := fun z => c2 ((e 2 (by decide)).mpr z)
      have d3 : w ≠ 3 := fun z => c3 ((e 3 (by decide)).mpr z)
      have d4 : w ≠ 4 := fun z => c4 ((e 4 (by decide)).mpr z)
      have d5 : w ≠ 5 := fun z => c5 ((e 5 (by decide)).mpr z)
      omega
    rw [g] at h; exact h
theorem m_told (hw : Wf M) (hr : Rm M (μ 0)) {p w : Nat} (hp : p < M 8 0) (hw7 : w < 7) {Q : Int32 → Prop} (h : Q (toldN M p w)) : pX5_told μ (nI p) (nI w) Q := by
  have h8 := hw.1
  unfold pX5_told pX5_told_33
  refine b_eq' (b := 5) (by omega) (by decide) (fun z => ?_) (fun z => b_eq' (b := 6) (by omega) (by decide) (fun z2 => ?_) (fun z2 => ?_))
  · rw [z] at h; exact m_where hw hr hp h
  · rw [z2] at h; exact m_grows hw hr hp h
  · have e : w = 0 ∨ w = 1 ∨ w = 2 ∨ w = 3 ∨ w = 4 := by omega
    rcases e with e | e | e | e | e <;> subst e
    · exact m_f0 hw hr hp h
    · exact m_f1 hw hr hp h
    · exact m_f2 hw hr hp h
    · exact m_f3 hw hr hp h
    · exact m_f4 hw hr hp h
def exN (M : Nx) (a b : Nat) : Nx := sn (sn M 4 a (M 4 b)) 4 b (M 4 a)
theorem exN_ne {a b g : Nat} (h : g ≠ 4) : exN M a b g = M g := by
  unfold exN
  rw [sn_ne h, sn_ne h]
theorem exN_row {a b i : Nat} : exN M a b 4 i = if i = b then M 4 a else if i = a then M 4 b else M 4 i := by
  unfold exN
  by_cases e : i = b
  · subst e
    rw [sn_at, if_pos rfl]
  · rw [sn_off e, if_neg e]
    by_cases e2 : i = a
    · subst e2
      rw [sn_at, if_pos rfl]
    · rw [sn_off e2, if_neg e2]
theorem Wf_ex (hw : Wf M) {a b : Nat} (ha : a < M 8 0) (hb : b < M 8 0) : Wf (exN M a b) := by
  have hra := hw.row ha
  have hrb := hw.row hb
  obtain ⟨a1, a2, a3, a4, a5, a6, a7⟩ := hw
  have e8 : exN M a b 8 = M 8 := exN_ne (by decide)
  refine ⟨by rw [e8]; exact a1, by rw [exN_ne (by decide)]; exact a2, by rw [exN_ne (by decide)]; exact a3, fun q hq => ?_, fun q hq => ?_, fun i hi => by rw [exN_ne (by decide)]; exact a6 i hi, fun i hi => by rw [e8, exN_ne (by decide)]; exact a7 i hi⟩
  · rw [e8] at hq
    have h8 := a4 q hq
    refine ⟨by rw [exN_ne (by decide)]; exact h8.1, by rw [exN_ne (by decide)]; exact h8.2.1, by rw [exN_ne (by decide)]; exact h8.2.2.1, by rw [exN_ne (by decide)]; exact h8.2.2.2.1, by rw [exN_ne (by decide)]; exact h8.2.2.2.2.1, ?_⟩
    rw [e8, exN_row]
    split
    · exact hra
    · split
      · exact hrb
      · exact h8.2.2.2.2.2
  · rw [e8] at hq
    obtain ⟨i, hi, he⟩ := a5 q hq
    rw [e8]
    by_cases z : i = a
    · refine ⟨b, hb, ?_⟩
      rw [exN_row, if_pos rfl, ← z]
      exact he
    · by_cases z2 : i = b
      · refine ⟨a, ha, ?_⟩
        rw [exN_row]
        by_cases z3 : a = b
        · exact absurd (z2.trans z3.symm) z
        · rw [if_neg z3, if_pos rfl, ← z2]
          exact he
      · refine ⟨i, hi, ?_⟩
        rw [exN_row, if_neg z2, if_neg z]
        exact he
/-- the exchange of two places, if both are there -/
def exP (M : Nx) (a b : Nat) : Nx := if a < M 8 0 ∧ b < M 8 0 then exN M a b else M
theorem Wf_exP (hw : Wf M) {a b : Nat} : Wf (exP M a b) := by
  unfold exP
  split
  · rename_i h
    exact Wf_ex hw h.1 h.2
  · exact hw
theorem exP_ne {a b g : Nat} (h : g ≠ 4) : exP M a b g = M g := by
  unfold exP
  split
  · exact exN_ne h
  · rfl
theorem Rc_ex (hw : Wf M) (hr : Rc M σ) {a b : Nat} (ha : a < M 8 0) (hb : b < M 8 0) : Rc (exN M a b) (st (st σ 4 a (σ 4 b)) 4 b (σ 4 a)) := by
  have h := Rc_s4 (Rc_s4 hr (p := a) (v := M 4 b)) (p := b) (v := M 4 a)
  rw [(hr.2.2.2.1 a ha).2.2.2.2, (hr.2.2.2.1 b hb).2.2.2.2]
  exact h
theorem Rm_ex (hw : Wf M) (hr : Rm M (μ 0)) {a b : Nat} (ha : a < M 8 0) (hb : b < M 8 0) : Rm (exN M a b) (st (st μ 0 (59 + a) (μ 0 (59 + b))) 0 (59 + b) (μ 0 (59 + a)) 0) := by
  have h8 := hw.1
  have h1 := Rm_s4 hr h8 (p := a) (v := M 4 b) (by omega)
  have h := Rm_s4 h1 (by rw [sn_ne (by decide)]; exact h8) (p := b) (v := M 4 a) (by omega)
  rw [hr.2.2.2.2.2.2 a ha, hr.2.2.2.2.2.2 b hb]
  exact h
theorem c_ex (hw : Wf M) (hr : Rc M σ) {x y : Int32} {a b : Nat} (hx : x = nI a) (hy : y = nI b) (ha : a < 2 ^ 31) (hb : b < 2 ^ 31) {Q : Mx → Prop} (h : ∀ σ', Rc (exP M a b) σ' → Q σ') : pX1_exchange σ x y Q := by
  have h8 := hw.1
  subst hx hy
  unfold pX1_exchange pX1_exchange_42
  unfold exP at h
  refine c_has hr h8 (fun i hi e => ?_) (fun ho => ?_)
  · have ea : a = i := (nI_eq ha (by omega)).mp e
    subst ea
    refine t1 (c_has hr h8 (fun j hj e => ?_) (fun ho => ?_))
    · have eb : b = j := (nI_eq hb (by omega)).mp e
      subst eb
      rw [if_pos ⟨hi, hj⟩] at h
      have va : vp_in (nI a) 8 := vp_in_nI (by omega) (by decide)
      have vb : vp_in (nI b) 8 := vp_in_nI (by omega) (by decide)
      refine t1 ⟨va, ?_⟩
      intro v e
      subst e
      rw [nI_clamp ha, nI_clamp hb]
      exact ⟨vb, va, vb, h _ (Rc_ex hw hr hi hj)⟩
    · rw [if_neg (fun z => ho b z.2 rfl)] at h
      exact t0 (h _ hr)
  · rw [if_neg (fun z => ho a z.1 rfl)] at h
    exact t0 (h _ hr)
theorem m_ex (hw : Wf M) (hr : Rm M (μ 0)) {x y : Int32} {a b : Nat} (hx : x = nI a) (hy : y = nI b) (ha : a < M 8 0) (hb : b < M 8 0) {Q : Mx → Prop} (h : ∀ μ', Rm (exN M a b) (μ' 0) → Fr0 μ μ' → Q μ') : pX5_exchange μ x y Q := by
  have h8 := hw.1
  subst hx hy
  unfold pX5_exchange
  refine ⟨m_in59 (by omega), ?_⟩
  intro v e
  subst e
  rw [m_at59 (by omega), m_at59 (by omega)]
  exact ⟨m_in59 (by omega), m_in59 (by omega), m_in59 (by omega), h _ (Rm_ex hw hr ha hb) (Fr0.tr Fr0.st Fr0.st)⟩
end Pure
