theorem cp_02 {μ : Mx} {Q : Mx → Prop} (h : ∀ μ', (∀ j, j < 67 → μ' 2 j = μ 0 j) → (∀ f, f ≠ 2 → μ' f = μ f) → Q μ') : pX5_copyRow_02 μ Q := by
  have key : ∀ d i τ, i + d = 67 → (∀ j, j < i → τ 2 j = μ 0 j) → (∀ f, f ≠ 2 → τ f = μ f) → pX5_copyRow_02_2 Q (d + 1) (nI i) τ := by
    intro d
    induction d with
    | zero =>
      intro i τ hi h1 h2
      show pX5_copyRow_02_2s _ Q _ _
      unfold pX5_copyRow_02_2s
      exact b_le (a := 67) (by decide) (by omega) (fun _ => h _ (fun j hj => h1 j (by omega)) h2) (fun z => by omega)
    | succ d ih =>
      intro i τ hi h1 h2
      show pX5_copyRow_02_2s (pX5_copyRow_02_2 Q (d + 1)) Q _ _
      unfold pX5_copyRow_02_2s
      have hv : vp_in (nI i) 67 := vp_in_nI (by omega) (by decide)
      rw [nI_clamp (by omega), nI_1]
      refine b_le (a := 67) (by decide) (by omega) (fun z => by omega) (fun _ => ⟨hv, hv, ih (i + 1) _ (by omega) (fun j hj => ?_) (fun f hf => ?_)⟩)
      · by_cases e : j = i
        · subst e
          rw [st_at, h2 0 (by decide)]
        · rw [st_off e]
          exact h1 j (by omega)
      · rw [st_nf hf]
        exact h2 f hf
  exact ⟨_, key 67 0 μ (by omega) (fun j hj => absurd hj (by omega)) (fun _ _ => rfl)⟩
theorem cp_20 {μ : Mx} {Q : Mx → Prop} (h : ∀ μ', (∀ j, j < 67 → μ' 0 j = μ 2 j) → (∀ f, f ≠ 0 → μ' f = μ f) → Q μ') : pX5_copyRow_20 μ Q := by
  have key : ∀ d i τ, i + d = 67 → (∀ j, j < i → τ 0 j = μ 2 j) → (∀ f, f ≠ 0 → τ f = μ f) → pX5_copyRow_20_2 Q (d + 1) (nI i) τ := by
    intro d
    induction d with
    | zero =>
      intro i τ hi h1 h2
      show pX5_copyRow_20_2s _ Q _ _
      unfold pX5_copyRow_20_2s
      exact b_le (a := 67) (by decide) (by omega) (fun _ => h _ (fun j hj => h1 j (by omega)) h2) (fun z => by omega)
    | succ d ih =>
      intro i τ hi h1 h2
      show pX5_copyRow_20_2s (pX5_copyRow_20_2 Q (d + 1)) Q _ _
      unfold pX5_copyRow_20_2s
      have hv : vp_in (nI i) 67 := vp_in_nI (by omega) (by decide)
      rw [nI_clamp (by omega), nI_1]
      refine b_le (a := 67) (by decide) (by omega) (fun z => by omega) (fun _ => ⟨hv, hv, ih (i + 1) _ (by omega) (fun j hj => ?_) (fun f hf => ?_)⟩)
      · by_cases e : j = i
        · subst e
          rw [st_at, h2 2 (by decide)]
        · rw [st_off e]
          exact h1 j (by omega)
      · rw [st_nf hf]
        exact h2 f hf
  exact ⟨_, key 67 0 μ (by omega) (fun j hj => absurd hj (by omega)) (fun _ _ => rfl)⟩
theorem cp_01 {μ : Mx} {Q : Mx → Prop} (h : ∀ μ', (∀ j, j < 67 → μ' 1 j = μ 0 j) → (∀ f, f ≠ 1 → μ' f = μ f) → Q μ') : pX5_copyRow_01 μ Q := by
  have key : ∀ d i τ, i + d = 67 → (∀ j, j < i → τ 1 j = μ 0 j) → (∀ f, f ≠ 1 → τ f = μ f) → pX5_copyRow_01_2 Q (d + 1) (nI i) τ := by
    intro d
    induction d with
    | zero =>
      intro i τ hi h1 h2
      show pX5_copyRow_01_2s _ Q _ _
      unfold pX5_copyRow_01_2s
      exact b_le (a := 67) (by decide) (by omega) (fun _ => h _ (fun j hj => h1 j (by omega)) h2) (fun z => by omega)
    | succ d ih =>
      intro i τ hi h1 h2
      show pX5_copyRow_01_2s (pX5_copyRow_01_2 Q (d + 1)) Q _ _
      unfold pX5_copyRow_01_2s
      have hv : vp_in (nI i) 67 := vp_in_nI (by omega) (by decide)
      rw [nI_clamp (by omega), nI_1]
      refine b_le (a := 67) (by decide) (by omega) (fun z => by omega) (fun _ => ⟨hv, hv, ih (i + 1) _ (by omega) (fun j hj => ?_) (fun f hf => ?_)⟩)
      · by_cases e : j = i
        · subst e
          rw [st_at, h2 0 (by decide)]
        · rw [st_off e]
          exact h1 j (by omega)
      · rw [st_nf hf]
        exact h2 f hf
  exact ⟨_, key 67 0 μ (by omega) (fun j hj => absurd hj (by omega)) (fun _ _ => rfl)⟩
theorem cp_10 {μ : Mx} {Q : Mx → Prop} (h : ∀ μ', (∀ j, j < 67 → μ' 0 j = μ 1 j) → (∀ f, f ≠ 0 → μ' f = μ f) → Q μ') : pX5_copyRow_10 μ Q := by
  have key : ∀ d i τ, i + d = 67 → (∀ j, j < i → τ 0 j = μ 1 j) → (∀ f, f ≠ 0 → τ f = μ f) → pX5_copyRow_10_2 Q (d + 1) (nI i) τ := by
    intro d
    induction d with
    | zero =>
      intro i τ hi h1 h2
      show pX5_copyRow_10_2s _ Q _ _
      unfold pX5_copyRow_10_2s
      exact b_le (a := 67) (by decide) (by omega) (fun _ => h _ (fun j hj => h1 j (by omega)) h2) (fun z => by omega)
    | succ d ih =>
      intro i τ hi h1 h2
      show pX5_copyRow_10_2s (pX5_copyRow_10_2 Q (d + 1)) Q _ _
      unfold pX5_copyRow_10_2s
      have hv : vp_in (nI i) 67 := vp_in_nI (by omega) (by decide)
      rw [nI_clamp (by omega), nI_1]
      refine b_le (a := 67) (by decide) (by omega) (fun z => by omega) (fun _ => ⟨hv, hv, ih (i + 1) _ (by omega) (fun j hj => ?_) (fun f hf => ?_)⟩)
      · by_cases e : j = i
        · subst e
          rw [st_at, h2 1 (by decide)]
        · rw [st_off e]
          exact h1 j (by omega)
      · rw [st_nf hf]
        exact h2 f hf
  exact ⟨_, key 67 0 μ (by omega) (fun j hj => absurd hj (by omega)) (fun _ _ => rfl)⟩
section Think
variable {M : Nx} {S S' : Nat → Mx} {σ μ μ' τ : Mx}
theorem Rm_cg {w w' : Nat → Int32} (h8 : M 8 0 ≤ 8) (h : ∀ j, j < 67 → w' j = w j) (hr : Rm M w) : Rm M w' := by
  obtain ⟨a1, a2, a3, a4, a5, a6, a7⟩ := hr
  refine ⟨?_, ?_, ?_, fun i hi => ?_, fun i hi => ?_, fun q hq => ?_, fun i hi => ?_⟩
  · rw [h _ (by omega)]; exact a1
  · rw [h _ (by omega)]; exact a2
  · rw [h _ (by omega)]; exact a3
  · rw [h _ (by omega)]; exact a4 i hi
  · rw [h _ (by omega)]; exact a5 i hi
  · rw [h _ (by omega), h _ (by omega), h _ (by omega), h _ (by omega), h _ (by omega)]; exact a6 q hq
  · rw [h _ (by omega)]; exact a7 i hi
/-- what was now lies aside -/
def Th (μ τ : Mx) : Prop := (∀ j, j < 67 → τ 2 j = μ 0 j) ∧ ∀ f, f ≠ 0 → f ≠ 2 → τ f = μ f
theorem Th.fr (h : Th μ τ) (k : Fr0 τ μ') : Th μ μ' := by
  refine ⟨fun j hj => ?_, fun f a b => ?_⟩
  · rw [k 2 (by decide)]
    exact h.1 j hj
  · rw [k f a]
    exact h.2 f a b
theorem m_aside (hm : Rm M (μ 0)) {Q : Mx → Prop} (h : ∀ τ, Th μ τ → Rm M (τ 0) → Q τ) : pX5_copyRow_02 μ Q :=
  cp_02 (fun τ h1 h2 => h τ ⟨h1, fun f _ b => h2 f b⟩ (by rw [h2 0 (by decide)]; exact hm))
theorem m_ret (hw : Wf M) (hm : Rm M (μ 0)) (hT : Th μ τ) {Q : Mx → Prop} (h : ∀ μ', Rm M (μ' 0) → Fm μ μ' → (∀ j, j < 67 → μ' 0 j = μ 0 j) → Q μ') : pX5_copyRow_20 τ Q :=
  cp_20 (fun τ' h1 h2 => h τ' (Rm_cg hw.1 (fun j hj => (h1 j hj).trans (hT.1 j hj)) hm) (fun f a b _ => (h2 f a).trans (hT.2 f a b)) (fun j hj => (h1 j hj).trans (hT.1 j hj)))
theorem m_back (hw : Wf M) (hm : Rm M (μ 0)) (hT : Th μ τ) {x : Int32} {Q : Int32 → Mx → Prop} (h : ∀ μ', Rm M (μ' 0) → Fm μ μ' → Q x μ') : pX5_putBack τ x Q := m_ret hw hm hT (fun μ' a b _ => h μ' a b)
/-- only the trial changes -/
def T2 (S S' : Nat → Mx) : Prop := ∀ k, k ≠ 2 → S' k = S k
theorem T2.fs (h : T2 S S') : Fs S S' := fun k _ b _ => h k b
theorem T2.up (h : T2 S S') {u : Mx} : T2 S (va_up S' 2 u) := fun k a => (va_up_ne _ _ a).trans (h k a)
theorem T2.rc (h : T2 S S') (hc : Rc M (S 0)) : Rc M (S' 0) := by
  rw [h 0 (by decide)]
  exact hc
theorem T2.rfl : T2 S S := fun _ _ => Eq.refl _
theorem firstOf (P : Nat → Prop) (N : Nat) : (∃ n, n ≤ N ∧ P n ∧ ∀ i, i < n → ¬ P i) ∨ (∀ n, n ≤ N → ¬ P n) := by
  by_cases h : ∃ n, n ≤ N ∧ P n
  · obtain ⟨n, hn, hp⟩ := h
    obtain ⟨j, h1, h2, h3⟩ := lst (P := P) n hp
    exact Or.inl ⟨j, by omega, h2, h3⟩
  · exact Or.inr (fun n hn hp => h ⟨n, hn, hp⟩)
theorem m_orNone_y {n : Nat} (hn : n < 2 ^ 31) {Q : Int32 → Mx → Prop} (h : Q (nI n) μ) : pX5_orNone μ (nI n) Q := ⟨fun _ => h, fun c => absurd (nI_pos' hn) c⟩
theorem m_orNone_n {Q : Int32 → Mx → Prop} (h : pX5_finding μ (-1000004) Q) : pX5_orNone μ (-1) Q := ⟨fun c => absurd c (by decide), fun _ => h⟩
theorem cs_when (hw : Wf M) {v : Nat} (hv : v < 1000) {i : Nat} (hi : i ≤ 200) (hτ : Rc (yrN M i) (S 2)) {ih : Int32 → Int32 → (Nat → Mx) → Prop} {Q : Int32 → (Nat → Mx) → Prop} (hd : sumN (yrN M i) ≤ v → Q (nI i) S) (hy : ¬ sumN (yrN M i) ≤ v → pX1_passYear (S 2) (fun u => ih (nI v) (nI i + 1) (va_up S 2 u))) : pX4_when_26s ih Q (nI v) (nI i) S := by
  have h8 := hw.1
  unfold pX4_when_26s
  exact b_lt (a := 200) (by decide) (by omega) (fun z => by omega) (fun _ => c_sum (Wf_yr hw i) hτ (b_lt (by omega) (by have := sumN_lt (Wf_yr hw i); omega) (fun z => hy (by omega)) (fun z => hd z)))
theorem cA_when (hw : Wf M) {v : Nat} (hv : v < 1000) {n : Nat} (hn : n ≤ 200) (hP : sumN (yrN M n) ≤ v) (hN : ∀ i, i < n → ¬ sumN (yrN M i) ≤ v) {Q : Int32 → (Nat → Mx) → Prop} (h : ∀ S', T2 S S' → Q (nI n) S') : ∀ d i S', i + d = n → T2 S S' → Rc (yrN M i) (S' 2) → pX4_when_26 Q (d + 1) (nI v) (nI i) S' := by
  intro d
  induction d with
  | zero =>
    intro i S' hi ht hτ
    have e : i = n := by omega
    subst e
    exact cs_when hw hv hn hτ (fun _ => h S' ht) (fun z => absurd hP z)
  | succ d ih =>
    intro i S' hi ht hτ
    refine cs_when hw hv (by omega) hτ (fun z => absurd z (hN i (by omega))) (fun _ => c_year (Wf_yr hw i) hτ (fun υ hυ => ?_))
    rw [nI_1]
    exact ih (i + 1) _ (by omega) ht.up (by rw [va_up_self]; exact hυ)
theorem cB_when (hw : Wf M) {v : Nat} (hv : v < 1000) (hN : ∀ i, i ≤ 200 → ¬ sumN (yrN M i) ≤ v) {Q : Int32 → (Nat → Mx) → Prop} (h : ∀ S', T2 S S' → pX4_found S' 3 Q) : ∀ d i S', i + d = 201 → T2 S S' → Rc (yrN M i) (S' 2) → pX4_when_26 Q (d + 1) (nI v) (nI i) S' := by
  intro d
  induction d with
  | zero =>
    intro i S' hi ht hτ
    show pX4_when_26s _ Q  _ _ _
    unfold pX4_when_26s
    exact b_lt (a := 200) (by decide) (by omega) (fun _ => h S' ht) (fun z => by omega)
  | succ d ih =>
    intro i S' hi ht hτ
    refine cs_when hw hv (by omega) hτ (fun z => absurd z (hN i (by omega))) (fun _ => c_year (Wf_yr hw i) hτ (fun υ hυ => ?_))
    rw [nI_1]
    exact ih (i + 1) _ (by omega) ht.up (by rw [va_up_self]; exact hυ)
theorem me_when (hw : Wf M) {v : Nat} (hv : v < 1000) {i : Nat} (hτ : Rm (yrN M i) (τ 0)) {Q : Int32 → Mx → Prop} (hd : sumN (yrN M i) ≤ v → pX5_when_71 Q (nI i) τ) (hy : ¬ sumN (yrN M i) ≤ v → pX5_when_71 Q (-1) τ) : pX5_when_56 Q (nI v) (nI i) τ := by
  have h8 := hw.1
  unfold pX5_when_56
  exact m_sum (Wf_yr hw i) hτ (b_le (by have := sumN_lt (Wf_yr hw i); omega) (by omega) (fun z => hd z) (fun z => hy (by omega)))
theorem ms_when (hw : Wf M) {v : Nat} (hv : v < 1000) {i : Nat} (hi : i < 200) (hτ : Rm (yrN M i) (τ 0)) {ih : Int32 → Int32 → Mx → Prop} {Q : Int32 → Mx → Prop} (hd : sumN (yrN M i) ≤ v → pX5_when_71 Q (nI i) τ) (hy : ¬ sumN (yrN M i) ≤ v → pX5_year τ (fun u => ih (nI v) (nI i + 1) u)) : pX5_when_31s ih Q (nI v) (nI i) τ := by
  have h8 := hw.1
  unfold pX5_when_31s
  exact b_le (a := 200) (by decide) (by omega) (fun z => by omega) (fun _ => m_sum (Wf_yr hw i) hτ (b_le (by have := sumN_lt (Wf_yr hw i); omega) (by omega) (fun z => me_when hw hv hτ hd (fun y => absurd z y)) (fun z => hy (by omega))))
theorem ml_when (hw : Wf M) {v : Nat} (hv : v < 1000) (hτ : Rm (yrN M 200) (τ 0)) {ih : Int32 → Int32 → Mx → Prop} {Q : Int32 → Mx → Prop} (hd : sumN (yrN M 200) ≤ v → pX5_when_71 Q (nI 200) τ) (hy : ¬ sumN (yrN M 200) ≤ v → pX5_when_71 Q (-1) τ) : pX5_when_31s ih Q (nI v) (nI 200) τ := by
  unfold pX5_when_31s
  exact b_le (a := 200) (by decide) (by decide) (fun _ => me_when hw hv hτ hd hy) (fun z => absurd z (by decide))
theorem mA_when (hw : Wf M) {v : Nat} (hv : v < 1000) {n : Nat} (hn : n ≤ 200) (hP : sumN (yrN M n) ≤ v) (hN : ∀ i, i < n → ¬ sumN (yrN M i) ≤ v) {Q : Int32 → Mx → Prop} (h : ∀ τ, Th μ τ → pX5_when_71 Q (nI n) τ) : ∀ d i τ, i + d = n → Th μ τ → Rm (yrN M i) (τ 0) → pX5_when_31 Q (d + 1) (nI v) (nI i) τ := by
  intro d
  induction d with
  | zero =>
    intro i τ hi ht hτ
    have e : i = n := by omega
    subst e
    by_cases e2 : i = 200
    · subst e2
      exact ml_when hw hv hτ (fun _ => h τ ht) (fun z => absurd hP z)
    · exact ms_when hw hv (by omega) hτ (fun _ => h τ ht) (fun z => absurd hP z)
  | succ d ih =>
    intro i τ hi ht hτ
    refine ms_when hw hv (by omega) hτ (fun z => absurd z (hN i (by omega))) (fun _ => m_year (Wf_yr hw i) hτ (fun υ hυ hf => ?_))
    rw [nI_1]
    exact ih (i + 1) υ (by omega) (ht.fr hf) hυ
theorem mB_when (hw : Wf M) {v : Nat} (hv : v < 1000) (hN : ∀ i, i ≤ 200 → ¬ sumN (yrN M i) ≤ v) {Q : Int32 → Mx → Prop} (h : ∀ τ, Th μ τ → pX5_when_71 Q (-1) τ) : ∀ d i τ, i + d = 200 → Th μ τ → Rm (yrN M i) (τ 0) → pX5_when_31 Q (d + 1) (nI v) (nI i) τ := by
  intro d
  induction d with
  | zero =>
    intro i τ hi ht hτ
    have e : i = 200 := by omega
    subst e
    exact ml_when hw hv hτ (fun z => absurd z (hN 200 (by decide))) (fun _ => h τ ht)
  | succ d ih =>
    intro i τ hi ht hτ
    refine ms_when hw hv (by omega) hτ (fun z => absurd z (hN i (by omega))) (fun _ => m_year (Wf_yr hw i) hτ (fun υ hυ hf => ?_))
    rw [nI_1]
    exact ih (i + 1) υ (by omega) (ht.fr hf) hυ
theorem cs_comes (hw : Wf M) {p q : Nat} (hp : p < M 8 0) (hq : q < 8) {i : Nat} (hi : i ≤ 200) (hτ : Rc (yrN M i) (S 2)) {ih : Int32 → Int32 → Int32 → (Nat → Mx) → Prop} {Q : Int32 → (Nat → Mx) → Prop} (hd : posN (yrN M i) p = q → Q (nI i) S) (hy : ¬ posN (yrN M i) p = q → pX1_passYear (S 2) (fun u => ih (nI p) (nI q) (nI i + 1) (va_up S 2 u))) : pX4_comes_37s ih Q (nI p) (nI q) (nI i) S := by
  have h8 := hw.1
  unfold pX4_comes_37s
  exact b_lt (a := 200) (by decide) (by omega) (fun z => by omega) (fun _ => c_place (Wf_yr hw i) hτ (by rw [yr_n]; exact hp) (b_eq' (by have := ((Wf_yr hw i).pos (p := p) (by rw [yr_n]; exact hp)).1; have := (Wf_yr hw i).1; omega) (by omega) (fun z => hd z) (fun z => hy z)))
theorem cA_comes (hw : Wf M) {p q : Nat} (hp : p < M 8 0) (hq : q < 8) {n : Nat} (hn : n ≤ 200) (hP : posN (yrN M n) p = q) (hN : ∀ i, i < n → ¬ posN (yrN M i) p = q) {Q : Int32 → (Nat → Mx) → Prop} (h : ∀ S', T2 S S' → Q (nI n) S') : ∀ d i S', i + d = n → T2 S S' → Rc (yrN M i) (S' 2) → pX4_comes_37 Q (d + 1) (nI p) (nI q) (nI i) S' := by
  intro d
  induction d with
  | zero =>
    intro i S' hi ht hτ
    have e : i = n := by omega
    subst e
    exact cs_comes hw hp hq hn hτ (fun _ => h S' ht) (fun z => absurd hP z)
  | succ d ih =>
    intro i S' hi ht hτ
    refine cs_comes hw hp hq (by omega) hτ (fun z => absurd z (hN i (by omega))) (fun _ => c_year (Wf_yr hw i) hτ (fun υ hυ => ?_))
    rw [nI_1]
    exact ih (i + 1) _ (by omega) ht.up (by rw [va_up_self]; exact hυ)
theorem cB_comes (hw : Wf M) {p q : Nat} (hp : p < M 8 0) (hq : q < 8) (hN : ∀ i, i ≤ 200 → ¬ posN (yrN M i) p = q) {Q : Int32 → (Nat → Mx) → Prop} (h : ∀ S', T2 S S' → pX4_found S' 3 Q) : ∀ d i S', i + d = 201 → T2 S S' → Rc (yrN M i) (S' 2) → pX4_comes_37 Q (d + 1) (nI p) (nI q) (nI i) S' := by
  intro d
  induction d with
  | zero =>
    intro i S' hi ht hτ
    show pX4_comes_37s _ Q  _ _ _ _
    unfold pX4_comes_37s
    exact b_lt (a := 200) (by decide) (by omega) (fun _ => h S' ht) (fun z => by omega)
  | succ d ih =>
    intro i S' hi ht hτ
    refine cs_comes hw hp hq (by omega) hτ (fun z => absurd z (hN i (by omega))) (fun _ => c_year (Wf_yr hw i) hτ (fun υ hυ => ?_))
    rw [nI_1]
    exact ih (i + 1) _ (by omega) ht.up (by rw [va_up_self]; exact hυ)
theorem me_comes (hw : Wf M) {p q : Nat} (hp : p < M 8 0) (hq : q < 8) {i : Nat} (hτ : Rm (yrN M i) (τ 0)) {Q : Int32 → Mx → Prop} (hd : posN (yrN M i) p = q → pX5_comes_77 Q (nI i) τ) (hy : ¬ posN (yrN M i) p = q → pX5_comes_77 Q (-1) τ) : pX5_comes_61 Q (nI p) (nI q) (nI i) τ := by
  have h8 := hw.1
  unfold pX5_comes_61
  exact m_where (Wf_yr hw i) hτ (by rw [yr_n]; exact hp) (b_eq' (by have := ((Wf_yr hw i).pos (p := p) (by rw [yr_n]; exact hp)).1; have := (Wf_yr hw i).1; omega) (by omega) (fun z => hd z) (fun z => hy z))
theorem ms_comes (hw : Wf M) {p q : Nat} (hp : p < M 8 0) (hq : q < 8) {i : Nat} (hi : i < 200) (hτ : Rm (yrN M i) (τ 0)) {ih : Int32 → Int32 → Int32 → Mx → Prop} {Q : Int32 → Mx → Prop} (hd : posN (yrN M i) p = q → pX5_comes_77 Q (nI i) τ) (hy : ¬ posN (yrN M i) p = q → pX5_year τ (fun u => ih (nI p) (nI q) (nI i + 1) u)) : pX5_comes_35s ih Q (nI p) (nI q) (nI i) τ := by
  have h8 := hw.1
  unfold pX5_comes_35s
  exact b_le (a := 200) (by decide) (by omega) (fun z => by omega) (fun _ => m_where (Wf_yr hw i) hτ (by rw [yr_n]; exact hp) (b_eq (by have := ((Wf_yr hw i).pos (p := p) (by rw [yr_n]; exact hp)).1; have := (Wf_yr hw i).1; omega) (by omega) (fun z => me_comes hw hp hq hτ hd (fun y => absurd z y)) (fun z => hy z)))
theorem ml_comes (hw : Wf M) {p q : Nat} (hp : p < M 8 0) (hq : q < 8) (hτ : Rm (yrN M 200) (τ 0)) {ih : Int32 → Int32 → Int32 → Mx → Prop} {Q : Int32 → Mx → Prop} (hd : posN (yrN M 200) p = q → pX5_comes_77 Q (nI 200) τ) (hy : ¬ posN (yrN M 200) p = q → pX5_comes_77 Q (-1) τ) : pX5_comes_35s ih Q (nI p) (nI q) (nI 200) τ := by
  unfold pX5_comes_35s
  exact b_le (a := 200) (by decide) (by decide) (fun _ => me_comes hw hp hq hτ hd hy) (fun z => absurd z (by decide))
theorem mA_comes (hw : Wf M) {p q : Nat} (hp : p < M 8 0) (hq : q < 8) {n : Nat} (hn : n ≤ 200) (hP : posN (yrN M n) p = q) (hN : ∀ i, i < n → ¬ posN (yrN M i) p = q) {Q : Int32 → Mx → Prop} (h : ∀ τ, Th μ τ → pX5_comes_77 Q (nI n) τ) : ∀ d i τ, i + d = n → Th μ τ → Rm (yrN M i) (τ 0) → pX5_comes_35 Q (d + 1) (nI p) (nI q) (nI i) τ := by
  intro d
  induction d with
  | zero =>
    intro i τ hi ht hτ
    have e : i = n := by omega
    subst e
    by_cases e2 : i = 200
    · subst e2
      exact ml_comes hw hp hq hτ (fun _ => h τ ht) (fun z => absurd hP z)
    · exact ms_comes hw hp hq (by omega) hτ (fun _ => h τ ht) (fun z => absurd hP z)
  | succ d ih =>
    intro i τ hi ht hτ
    refine ms_comes hw hp hq (by omega) hτ (fun z => absurd z (hN i (by omega))) (fun _ => m_year (Wf_yr hw i) hτ (fun υ hυ hf => ?_))
    rw [nI_1]
    exact ih (i + 1) υ (by omega) (ht.fr hf) hυ
theorem mB_comes (hw : Wf M) {p q : Nat} (hp : p < M 8 0) (hq : q < 8) (hN : ∀ i, i ≤ 200 → ¬ posN (yrN M i) p = q) {Q : Int32 → Mx → Prop} (h : ∀ τ, Th μ τ → pX5_comes_77 Q (-1) τ) : ∀ d i τ, i + d = 200 → Th μ τ → Rm (yrN M i) (τ 0) → pX5_comes_35 Q (d + 1) (nI p) (nI q) (nI i) τ := by
  intro d
  induction d with
  | zero =>
    intro i τ hi ht hτ
    have e : i = 200 := by omega
    subst e
    exact ml_comes hw hp hq hτ (fun z => absurd z (hN 200 (by decide))) (fun _ => h τ ht)
  | succ d ih =>
    intro i τ hi ht hτ
    refine ms_comes hw hp hq (by omega) hτ (fun z => absurd z (hN i (by omega))) (fun _ => m_year (Wf_yr hw i) hτ (fun υ hυ hf => ?_))
    rw [nI_1]
    exact ih (i + 1) υ (by omega) (ht.fr hf) hυ
theorem cs_granted (hw : Wf M) {p : Nat} (hp : p < M 8 0) {i : Nat} (hi : i ≤ 200) (hτ : Rc (yrN M i) (S 2)) {ih : Int32 → Int32 → (Nat → Mx) → Prop} {Q : Int32 → (Nat → Mx) → Prop} (hd : grB (yrN M i) p = true → Q (nI i) S) (hy : ¬ grB (yrN M i) p = true → pX1_passYear (S 2) (fun u => ih (nI p) (nI i + 1) (va_up S 2 u))) : pX4_granted_30s ih Q (nI p) (nI i) S := by
  have h8 := hw.1
  unfold pX4_granted_30s
  exact b_lt (a := 200) (by decide) (by omega) (fun z => by omega) (fun _ => c_granted (Wf_yr hw i) hτ (by rw [yr_n]; exact hp) (fun g => t1 (hd g)) (fun g => t0 (hy (by rw [g]; decide))))
theorem cA_granted (hw : Wf M) {p : Nat} (hp : p < M 8 0) {n : Nat} (hn : n ≤ 200) (hP : grB (yrN M n) p = true) (hN : ∀ i, i < n → ¬ grB (yrN M i) p = true) {Q : Int32 → (Nat → Mx) → Prop} (h : ∀ S', T2 S S' → Q (nI n) S') : ∀ d i S', i + d = n → T2 S S' → Rc (yrN M i) (S' 2) → pX4_granted_30 Q (d + 1) (nI p) (nI i) S' := by
  intro d
  induction d with
  | zero =>
    intro i S' hi ht hτ
    have e : i = n := by omega
    subst e
    exact cs_granted hw hp hn hτ (fun _ => h S' ht) (fun z => absurd hP z)
  | succ d ih =>
    intro i S' hi ht hτ
    refine cs_granted hw hp (by omega) hτ (fun z => absurd z (hN i (by omega))) (fun _ => c_year (Wf_yr hw i) hτ (fun υ hυ => ?_))
    rw [nI_1]
    exact ih (i + 1) _ (by omega) ht.up (by rw [va_up_self]; exact hυ)
theorem cB_granted (hw : Wf M) {p : Nat} (hp : p < M 8 0) (hN : ∀ i, i ≤ 200 → ¬ grB (yrN M i) p = true) {Q : Int32 → (Nat → Mx) → Prop} (h : ∀ S', T2 S S' → pX4_found S' 3 Q) : ∀ d i S', i + d = 201 → T2 S S' → Rc (yrN M i) (S' 2) → pX4_granted_30 Q (d + 1) (nI p) (nI i) S' := by
  intro d
  induction d with
  | zero =>
    intro i S' hi ht hτ
    show pX4_granted_30s _ Q  _ _ _
    unfold pX4_granted_30s
    exact b_lt (a := 200) (by decide) (by omega) (fun _ => h S' ht) (fun z => by omega)
  | succ d ih =>
    intro i S' hi ht hτ
    refine cs_granted hw hp (by omega) hτ (fun z => absurd z (hN i (by omega))) (fun _ => c_year (Wf_yr hw i) hτ (fun υ hυ => ?_))
    rw [nI_1]
    exact ih (i + 1) _ (by omega) ht.up (by rw [va_up_self]; exact hυ)
theorem me_granted (hw : Wf M) {p : Nat} (hp : p < M 8 0) {i : Nat} (hτ : Rm (yrN M i) (τ 0)) {Q : Int32 → Mx → Prop} (hd : grB (yrN M i) p = true → pX5_granted_68 Q (nI i) τ) (hy : ¬ grB (yrN M i) p = true → pX5_granted_68 Q (-1) τ) : pX5_granted_53 Q (nI p) (nI i) τ := by
  have h8 := hw.1
  unfold pX5_granted_53
  exact m_granted (Wf_yr hw i) hτ (by rw [yr_n]; exact hp) (fun z => t1 (hd z)) (fun z => t0 (hy (by rw [z]; decide)))
theorem ms_granted (hw : Wf M) {p : Nat} (hp : p < M 8 0) {i : Nat} (hi : i < 200) (hτ : Rm (yrN M i) (τ 0)) {ih : Int32 → Int32 → Mx → Prop} {Q : Int32 → Mx → Prop} (hd : grB (yrN M i) p = true → pX5_granted_68 Q (nI i) τ) (hy : ¬ grB (yrN M i) p = true → pX5_year τ (fun u => ih (nI p) (nI i + 1) u)) : pX5_granted_28s ih Q (nI p) (nI i) τ := by
  have h8 := hw.1
  unfold pX5_granted_28s
  exact b_le (a := 200) (by decide) (by omega) (fun z => by omega) (fun _ => m_granted (Wf_yr hw i) hτ (by rw [yr_n]; exact hp) (fun z => t1' (me_granted hw hp hτ hd (fun y => absurd z y))) (fun z => t0' (hy (by rw [z]; decide))))
theorem ml_granted (hw : Wf M) {p : Nat} (hp : p < M 8 0) (hτ : Rm (yrN M 200) (τ 0)) {ih : Int32 → Int32 → Mx → Prop} {Q : Int32 → Mx → Prop} (hd : grB (yrN M 200) p = true → pX5_granted_68 Q (nI 200) τ) (hy : ¬ grB (yrN M 200) p = true → pX5_granted_68 Q (-1) τ) : pX5_granted_28s ih Q (nI p) (nI 200) τ := by
  unfold pX5_granted_28s
  exact b_le (a := 200) (by decide) (by decide) (fun _ => me_granted hw hp hτ hd hy) (fun z => absurd z (by decide))
theorem mA_granted (hw : Wf M) {p : Nat} (hp : p < M 8 0) {n : Nat} (hn : n ≤ 200) (hP : grB (yrN M n) p = true) (hN : ∀ i, i < n → ¬ grB (yrN M i) p = true) {Q : Int32 → Mx → Prop} (h : ∀ τ, Th μ τ → pX5_granted_68 Q (nI n) τ) : ∀ d i τ, i + d = n → Th μ τ → Rm (yrN M i) (τ 0) → pX5_granted_28 Q (d + 1) (nI p) (nI i) τ := by
  intro d
  induction d with
  | zero =>
    intro i τ hi ht hτ
    have e : i = n := by omega
    subst e
    by_cases e2 : i = 200
    · subst e2
      exact ml_granted hw hp hτ (fun _ => h τ ht) (fun z => absurd hP z)
    · exact ms_granted hw hp (by omega) hτ (fun _ => h τ ht) (fun z => absurd hP z)
  | succ d ih =>
    intro i τ hi ht hτ
    refine ms_granted hw hp (by omega) hτ (fun z => absurd z (hN i (by omega))) (fun _ => m_year (Wf_yr hw i) hτ (fun υ hυ hf => ?_))
    rw [nI_1]
    exact ih (i + 1) υ (by omega) (ht.fr hf) hυ
theorem mB_granted (hw : Wf M) {p : Nat} (hp : p < M 8 0) (hN : ∀ i, i ≤ 200 → ¬ grB (yrN M i) p = true) {Q : Int32 → Mx → Prop} (h : ∀ τ, Th μ τ → pX5_granted_68 Q (-1) τ) : ∀ d i τ, i + d = 200 → Th μ τ → Rm (yrN M i) (τ 0) → pX5_granted_28 Q (d + 1) (nI p) (nI i) τ := by
  intro d
  induction d with
  | zero =>
    intro i τ hi ht hτ
    have e : i = 200 := by omega
    subst e
    exact ml_granted hw hp hτ (fun z => absurd z (hN 200 (by decide))) (fun _ => h τ ht)
  | succ d ih =>
    intro i τ hi ht hτ
    refine ms_granted hw hp (by omega) hτ (fun z => absurd z (hN i (by omega))) (fun _ => m_year (Wf_yr hw i) hτ (fun υ hυ hf => ?_))
    rw [nI_1]
    exact ih (i + 1) υ (by omega) (ht.fr hf) hυ
end Think
theorem ok13 : OK_13 Inv := by
  intro S μ x1 hI
  have hI' := hI
  obtain ⟨M, hw, hc, hm, ho⟩ := hI'
  have h8 := hw.1
  unfold pX4_when pX1_takeFrom
  refine c_isToldSum (fun v hv e => ?_) (fun o1 => t0' (c_found 0 (by decide) rfl ?_))
  · subst e
    refine t1' ?_
    rcases firstOf (fun i => sumN (yrN M i) ≤ v) 200 with ⟨n, hn, hP, hN⟩ | hN
    · refine ⟨_, cA_when (S := S) hw hv hn hP hN (fun S' ht => ?_) n 0 _ (by omega) T2.rfl.up (by rw [va_up_self]; exact hc)⟩
      unfold pX5_when
      exact my (n := 1000) (by decide) hv (by decide) (t1' (m_aside hm (fun τ hT hτ => ⟨_, mA_when (μ := μ) hw hv hn hP hN (fun υ hT' => m_back hw hm hT' (fun μ' hm' hf => m_orNone_y (by omega) ⟨rfl, ho.inv hw (ht.rc hc) hm' ht.fs hf⟩)) n 0 τ (by omega) hT hτ⟩)))
    · refine ⟨_, cB_when (S := S) hw hv hN (fun S' ht => c_found 3 (by decide) rfl ?_) 201 0 _ (by omega) T2.rfl.up (by rw [va_up_self]; exact hc)⟩
      unfold pX5_when
      exact my (n := 1000) (by decide) hv (by decide) (t1' (m_aside hm (fun τ hT hτ => ⟨_, mB_when (μ := μ) hw hv hN (fun υ hT' => m_back hw hm hT' (fun μ' hm' hf => m_orNone_n (fin (ho.inv hw (ht.rc hc) hm' ht.fs hf) 3 (by decide) (by decide)))) 200 0 τ (by omega) hT hτ⟩)))
  · unfold pX5_when
    exact mn (n := 1000) (by decide) o1 (by decide) (t0' (fin hI 0 (by decide) (by decide)))
theorem ok14 : OK_14 Inv := by
  intro S μ x1 x2 hI
  have hI' := hI
  obtain ⟨M, hw, hc, hm, ho⟩ := hI'
  have h8 := hw.1
  have G : pX5_comes_15 (fun r1 u1 => (-1000001) - nI 0 = r1 ∧ Inv (fS S 0) u1) μ := fin hI 0 (by decide) (by decide)
  unfold pX4_comes pX4_comes_18 pX1_takeFrom
  refine c_has hc h8 (fun p hp e => ?_) (fun o1 => t0 (c_found 0 (by decide) rfl ?_))
  · subst e
    refine t1 (c_isPlace (fun q hq e => ?_) (fun o2 => t0' (c_found 0 (by decide) rfl (by
      unfold pX5_comes
      exact m_y_isPiece hm h8 hp (t1 (m_n_isOne o2 (t0' G)))))))
    subst e
    refine t1' ?_
    rcases firstOf (fun i => posN (yrN M i) p = q) 200 with ⟨n, hn, hP, hN⟩ | hN
    · refine ⟨_, cA_comes (S := S) hw hp hq hn hP hN (fun S' ht => ?_) n 0 _ (by omega) T2.rfl.up (by rw [va_up_self]; exact hc)⟩
      unfold pX5_comes
      exact m_y_isPiece hm h8 hp (t1 (m_y_isOne hq (t1' (m_aside hm (fun τ hT hτ => ⟨_, mA_comes (μ := μ) hw hp hq hn hP hN (fun υ hT' => m_back hw hm hT' (fun μ' hm' hf => m_orNone_y (by omega) ⟨rfl, ho.inv hw (ht.rc hc) hm' ht.fs hf⟩)) n 0 τ (by omega) hT hτ⟩)))))
    · refine ⟨_, cB_comes (S := S) hw hp hq hN (fun S' ht => c_found 3 (by decide) rfl ?_) 201 0 _ (by omega) T2.rfl.up (by rw [va_up_self]; exact hc)⟩
      unfold pX5_comes
      exact m_y_isPiece hm h8 hp (t1 (m_y_isOne hq (t1' (m_aside hm (fun τ hT hτ => ⟨_, mB_comes (μ := μ) hw hp hq hN (fun υ hT' => m_back hw hm hT' (fun μ' hm' hf => m_orNone_n (fin (ho.inv hw (ht.rc hc) hm' ht.fs hf) 3 (by decide) (by decide)))) 200 0 τ (by omega) hT hτ⟩)))))
  · unfold pX5_comes
    exact m_n_isPiece hm h8 o1 (t0 G)
theorem ok15 : OK_15 Inv := by
  intro S μ x1 hI
  have hI' := hI
  obtain ⟨M, hw, hc, hm, ho⟩ := hI'
  have h8 := hw.1
  unfold pX4_granted pX1_takeFrom
  refine c_has hc h8 (fun p hp e => ?_) (fun o1 => t0' (c_found 0 (by decide) rfl ?_))
  · subst e
    refine t1' ?_
    rcases firstOf (fun i => grB (yrN M i) p = true) 200 with ⟨n, hn, hP, hN⟩ | hN
    · refine ⟨_, cA_granted (S := S) hw hp hn hP hN (fun S' ht => ?_) n 0 _ (by omega) T2.rfl.up (by rw [va_up_self]; exact hc)⟩
      unfold pX5_granted
      exact m_y_isPiece hm h8 hp (t1' (m_aside hm (fun τ hT hτ => ⟨_, mA_granted (μ := μ) hw hp hn hP hN (fun υ hT' => m_back hw hm hT' (fun μ' hm' hf => m_orNone_y (by omega) ⟨rfl, ho.inv hw (ht.rc hc) hm' ht.fs hf⟩)) n 0 τ (by omega) hT hτ⟩)))
    · refine ⟨_, cB_granted (S := S) hw hp hN (fun S' ht => c_found 3 (by decide) rfl ?_) 201 0 _ (by omega) T2.rfl.up (by rw [va_up_self]; exact hc)⟩
      unfold pX5_granted
      exact m_y_isPiece hm h8 hp (t1' (m_aside hm (fun τ hT hτ => ⟨_, mB_granted (μ := μ) hw hp hN (fun υ hT' => m_back hw hm hT' (fun μ' hm' hf => m_orNone_n (fin (ho.inv hw (ht.rc hc) hm' ht.fs hf) 3 (by decide) (by decide)))) 200 0 τ (by omega) hT hτ⟩)))
  · unfold pX5_granted
    exact m_n_isPiece hm h8 o1 (t0' (fin hI 0 (by decide) (by decide)))
theorem ok12 : OK_12 Inv := by
  intro S μ x1 hI
  have hI' := hI
  obtain ⟨M, hw, hc, hm, ho⟩ := hI'
  have h8 := hw.1
  unfold pX4_sum pX4_sum_10 pX1_takeFrom
  refine rg (n := 101) (by decide) (by decide) (fun o1 => c_found 0 (by decide) rfl ?_) (fun n hn e => ?_)
  · unfold pX5_sum
    exact mn (n := 101) (by decide) o1 (by decide) (t0' (fin hI 0 (by decide) (by decide)))
  · subst e
    have hw' := Wf_yr hw n
    rw [va_up_self]
    refine c_years hw hc (by omega) (fun υ hυ => ?_)
    rw [va_up_self]
    refine c_sum hw' hυ ?_
    unfold pX5_sum
    exact my (n := 101) (by decide) hn (by decide) (t1' (m_aside hm (fun τ hT hτ => m_years hw hτ (by omega) (fun τ' hτ' hf' => m_sum hw' hτ' (m_back hw hm (hT.fr hf') (fun μ' hm' hf => ⟨rfl, ho.inv hw (T2.rc (T2.rfl.up.up) hc) hm' (T2.fs (T2.rfl.up.up)) hf⟩))))))
theorem ok11 : OK_11 Inv := by
  intro S μ x1 x2 x3 hI
  have hI' := hI
  obtain ⟨M, hw, hc, hm, ho⟩ := hI'
  have h8 := hw.1
  have G : pX5_ahead_28 (fun r1 u1 => (-1000001) - nI 0 = r1 ∧ Inv (fS S 0) u1) μ := fin hI 0 (by decide) (by decide)
  have key : ∀ w, w < 7 → x2 = nI w → (x2 = 1 ∨ x2 = 5) → pX4_ahead_15 (fun r0 u0 => pX5_ahead μ x1 x2 x3 (fun r1 u1 => r0 = r1 ∧ Inv u0 u1)) x1 x2 x3 1 S := by
    intro w hw7 e2 h15
    unfold pX4_ahead_15 pX4_ahead_43 pX1_takeFrom
    have hgo : ∀ {R : Int32 → Mx → Prop}, pX5_ahead_18 R x1 x2 x3 μ → (∃ i, i < M 8 0 ∧ x1 = nI i) → pX5_ahead μ x1 x2 x3 R := by
      intro R hR ⟨i, hi, e⟩
      subst e
      unfold pX5_ahead
      refine m_y_isPiece hm h8 hi (t1 ⟨fun _ => hR, fun c => ⟨fun c5 => ?_, fun _ => hR⟩⟩)
      exact absurd h15 (fun z => z.elim c c5)
    refine c_has hc h8 (fun i hi e => ?_) (fun o1 => t0 (c_found 0 (by decide) rfl ?_))
    · subst e
      refine t1 (t1 (rg (n := 101) (by decide) (by decide) (fun o1 => c_found 0 (by decide) rfl ?_) (fun n hn e => ?_)))
      · refine hgo ?_ ⟨i, hi, rfl⟩
        unfold pX5_ahead_18
        exact mn (n := 101) (by decide) o1 (by decide) (t0' G)
      · subst e
        have hw' := Wf_yr hw n
        have hi' : i < yrN M n 8 0 := by rw [yr_n]; exact hi
        rw [va_up_self]
        refine c_years hw hc (by omega) (fun υ hυ => ?_)
        rw [va_up_self, e2]
        refine c_told hw' hυ hi' hw7 ?_
        rw [← e2]
        refine hgo ?_ ⟨i, hi, rfl⟩
        unfold pX5_ahead_18
        rw [e2]
        exact my (n := 101) (by decide) hn (by decide) (t1' (m_aside hm (fun τ hT hτ => m_years hw hτ (by omega) (fun τ' hτ' hf' => m_told hw' hτ' hi' hw7 (m_back hw hm (hT.fr hf') (fun μ' hm' hf => ⟨rfl, ho.inv hw (T2.rc (T2.rfl.up.up) hc) hm' (T2.fs (T2.rfl.up.up)) hf⟩))))))
    · unfold pX5_ahead
      exact m_n_isPiece hm h8 o1 (t0 G)
  unfold pX4_ahead pX4_ahead_10
  refine ⟨fun c => key 1 (by decide) c (Or.inl c), fun c1 => ⟨fun c5 => ?_, fun c => key 5 (by decide) c (Or.inr c)⟩⟩
  unfold pX4_ahead_15 pX4_ahead_43
  refine c_has hc h8 (fun i hi e => ?_) (fun o1 => t0 (c_found 0 (by decide) rfl ?_))
  · subst e
    refine t1 (t0 (c_found 0 (by decide) rfl ?_))
    unfold pX5_ahead
    exact m_y_isPiece hm h8 hi (t1 ⟨fun c => absurd c c1, fun _ => ⟨fun _ => G, fun c => absurd c c5⟩⟩)
  · unfold pX5_ahead
    exact m_n_isPiece hm h8 o1 (t0 G)
