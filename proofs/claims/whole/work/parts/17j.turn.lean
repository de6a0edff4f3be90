section Turn
variable {M : Nx} {S S' : Nat → Mx} {σ μ μ' : Mx}
/-- the first k pieces turned by a set -/
def tkN (M : Nx) (s k : Nat) : Nx := fun g j => if g = 7 ∧ j < k then (M 7 j + s / 2 ^ j % 2) % 2 else M g j
theorem tkN_ne {s k g : Nat} (h : g ≠ 7) : tkN M s k g = M g := by
  funext j
  unfold tkN
  exact if_neg (fun z => h z.1)
theorem tkN_ge {s k j : Nat} (h : k ≤ j) : tkN M s k 7 j = M 7 j := by
  unfold tkN
  exact if_neg (fun z => absurd z.2 (by omega))
theorem tkN_lt {s k j : Nat} (h : j < k) : tkN M s k 7 j = (M 7 j + s / 2 ^ j % 2) % 2 := by
  unfold tkN
  exact if_pos ⟨rfl, h⟩
theorem tkN_0 {s : Nat} : tkN M s 0 = M := by
  funext g j
  unfold tkN
  exact if_neg (fun z => absurd z.2 (by omega))
theorem tkN_s {s k : Nat} : sn (tkN M s k) 7 k ((M 7 k + s / 2 ^ k % 2) % 2) = tkN M s (k + 1) := by
  funext g j
  unfold sn tkN
  by_cases e : g = 7 ∧ j = k
  · rw [if_pos e, if_pos ⟨e.1, by omega⟩, e.2]
  · rw [if_neg e]
    by_cases e2 : g = 7 ∧ j < k
    · rw [if_pos e2, if_pos ⟨e2.1, by omega⟩]
    · rw [if_neg e2, if_neg (fun z => by
        rcases Nat.lt_or_ge j k with h | h
        · exact e2 ⟨z.1, h⟩
        · exact e ⟨z.1, by omega⟩)]
theorem Wf_tk (hw : Wf M) {s : Nat} : ∀ k, Wf (tkN M s k)
  | 0 => by rw [tkN_0]; exact hw
  | k + 1 => by
    rw [← tkN_s]
    exact Wf_s7 (Wf_tk hw k) (by have := Nat.mod_lt (M 7 k + s / 2 ^ k % 2) (show 0 < 2 by decide); omega)
theorem tk_inv (hw : Wf M) {s : Nat} : tkN (tkN M s (M 8 0)) s (M 8 0) = M := by
  funext g j
  by_cases h : g = 7
  · subst h
    by_cases hj : j < M 8 0
    · have h7 := hw.tle j hj
      rw [tkN_lt hj, tkN_lt hj]
      have hb : s / 2 ^ j % 2 < 2 := Nat.mod_lt _ (by decide)
      generalize s / 2 ^ j % 2 = c at hb
      omega
    · rw [tkN_ge (by omega), tkN_ge (by omega)]
  · rw [tkN_ne h, tkN_ne h]
theorem tb_uniq : ∀ k x, x < 2 ^ k → (∀ p, p < k → x / 2 ^ p % 2 = M 7 p) → x = tb M k
  | 0, x, h, _ => by
    have e : 2 ^ 0 = 1 := rfl
    rw [tb]
    omega
  | k + 1, x, h, hb => by
    rw [Nat.pow_succ] at h
    have h2 : 0 < 2 ^ k := Nat.two_pow_pos k
    have hk := hb k (by omega)
    have hd : x / 2 ^ k < 2 := Nat.div_lt_of_lt_mul (by omega)
    have ih := tb_uniq k (x % 2 ^ k) (Nat.mod_lt _ h2) (fun p hp => by
      rw [← hb p (by omega)]
      have e1 : 2 ^ k = 2 ^ p * 2 ^ (k - p) := by rw [← Nat.pow_add]; congr 1; omega
      have e2 : 2 ^ (k - p) = 2 * 2 ^ (k - p - 1) := by rw [← Nat.pow_succ']; congr 1; omega
      rw [e1, Nat.mod_mul_right_div_self, e2]
      exact Nat.mod_mul_right_mod _ _ _)
    have e3 := Nat.div_add_mod x (2 ^ k)
    rw [Nat.mod_eq_of_lt hd] at hk
    rw [tb, ← hk, ← ih, Nat.mul_comm (x / 2 ^ k)]
    omega
theorem bit_tb (a i : Nat) : a.testBit i = decide (a / 2 ^ i % 2 = 1) := Nat.testBit_eq_decide_div_mod_eq
theorem xor_bit (a b i : Nat) : (a ^^^ b) / 2 ^ i % 2 = (a / 2 ^ i % 2 + b / 2 ^ i % 2) % 2 := by
  have h := Nat.testBit_xor a b i
  rw [bit_tb, bit_tb, bit_tb] at h
  have h1 : (a ^^^ b) / 2 ^ i % 2 < 2 := Nat.mod_lt _ (by decide)
  have h2 : a / 2 ^ i % 2 < 2 := Nat.mod_lt _ (by decide)
  have h3 : b / 2 ^ i % 2 < 2 := Nat.mod_lt _ (by decide)
  generalize (a ^^^ b) / 2 ^ i % 2 = x at h h1 ⊢
  generalize a / 2 ^ i % 2 = y at h h2 ⊢
  generalize b / 2 ^ i % 2 = z at h h3 ⊢
  have ey : y = 0 ∨ y = 1 := by omega
  have ez : z = 0 ∨ z = 1 := by omega
  have ex : x = 0 ∨ x = 1 := by omega
  rcases ex with ex | ex <;> rcases ey with ey | ey <;> rcases ez with ez | ez <;> subst ex ey ez <;> first | rfl | (exact absurd h (by decide))
theorem tb_xor (hw : Wf M) {s : Nat} (hs : s < 2 ^ (M 8 0)) : tb (tkN M s (M 8 0)) (M 8 0) = tb M (M 8 0) ^^^ s := by
  refine (tb_uniq _ _ (Nat.xor_lt_two_pow (tb_lt hw.tle _ (Nat.le_refl _)) hs) (fun p hp => ?_)).symm
  rw [xor_bit, tb_bit hw.tle _ (Nat.le_refl _) hp, tkN_lt hp]
theorem nI_xor (a b : Nat) : nI a ^^^ nI b = nI (a ^^^ b) := by
  refine Int32.toBitVec_inj.mp ?_
  simp [nI, BitVec.ofNat_xor]
theorem Rc_tk (hw : Wf M) (hc : Rc M σ) {τ : Mx} (h : ∀ f, f ≠ 7 → τ f = σ f) {s : Nat} (hs : s < 2 ^ (M 8 0)) : Rc (tkN M s (M 8 0)) (st τ 7 0 (σ 7 0 ^^^ nI s)) := by
  obtain ⟨a1, a2, a3, a4, a5, a6, a7⟩ := hc
  refine ⟨?_, ?_, ?_, fun q hq => ?_, fun i hi => ?_, fun i hi => ?_, ?_⟩
  · rw [st_nf (by decide), h 8 (by decide), tkN_ne (by decide)]; exact a1
  · rw [st_nf (by decide), h 9 (by decide), tkN_ne (by decide)]; exact a2
  · rw [st_nf (by decide), h 10 (by decide), tkN_ne (by decide)]; exact a3
  · rw [tkN_ne (by decide)] at hq
    rw [st_nf (by decide), st_nf (by decide), st_nf (by decide), st_nf (by decide), st_nf (by decide), h 0 (by decide), h 1 (by decide), h 2 (by decide), h 3 (by decide), h 4 (by decide), tkN_ne (by decide), tkN_ne (by decide), tkN_ne (by decide), tkN_ne (by decide), tkN_ne (by decide)]
    exact a4 q hq
  · rw [st_nf (by decide), h 5 (by decide), tkN_ne (by decide)]; exact a5 i hi
  · rw [st_nf (by decide), h 6 (by decide), tkN_ne (by decide)]; exact a6 i hi
  · rw [st_at, tkN_ne (g := 8) (by decide), a7, nI_xor, tb_xor hw hs]
theorem x01 : ∀ m, m < 2 → ∀ c, c < 2 → nI m ^^^ nI c = nI ((m + c) % 2) := by decide +kernel
theorem m_sumT (hw : Wf M) (hm : Rm M (μ 0)) {s : Nat} (hs : s < 256) {Q : Int32 → Mx → Prop} (h : ∀ μ', Fr0 μ μ' → Rm M (μ' 0) → Q (nI (sumN (tkN M s (M 8 0)))) μ') : pX5_sumTurned μ (nI s) Q := by
  have h8 := hw.1
  have hv1 : vp_in 1 67 := v_1 (by decide) (by decide)
  have stp : ∀ (N : Nx), Wf N → N 8 0 = M 8 0 → ∀ i, i < M 8 0 → ∀ τ : Mx, Rm (tkN N s i) (τ 0) → Rm (tkN N s (i + 1)) (st τ 0 (19 + 5 * i + 4) (τ 0 (19 + 5 * i + 4) ^^^ nI (s / 2 ^ i % 2)) 0) := by
    intro N hN hn i hi τ hτ
    have hb : s / 2 ^ i % 2 < 2 := Nat.mod_lt _ (by decide)
    have hi' : i < tkN N s i 8 0 := by rw [tkN_ne (by decide), hn]; exact hi
    have h7 := hN.tle i (by omega)
    have e : τ 0 (19 + 5 * i + 4) = nI (N 7 i) := by
      rw [(hτ.2.2.2.2.2.1 i hi').2.2.2.2, tkN_ge (Nat.le_refl i)]
    rw [e, x01 _ (by omega) _ hb, ← tkN_s]
    exact Rm_s7 hτ (by omega)
  have bit : ∀ i, i < 8 → ((nI s >>> (nI i &&& 31)) &&& 1) = nI (s / 2 ^ i % 2) := fun i hi => bitN (by omega) hi
  have hwT := Wf_tk hw (s := s) (M 8 0)
  have enT : tkN M s (M 8 0) 8 0 = M 8 0 := by rw [tkN_ne (by decide)]
  have k2 : ∀ (r : Int32) d i τ, i + d = M 8 0 → Fr0 μ τ → Rm (tkN (tkN M s (M 8 0)) s i) (τ 0) → (∀ μ', Fr0 μ μ' → Rm M (μ' 0) → Q r μ') → pX5_sumTurned_43 Q (d + 1) (nI s) r (nI i) τ := by
    intro r d
    induction d with
    | zero =>
      intro i τ hi hf hτ hq
      have e : i = M 8 0 := by omega
      subst e
      rw [tk_inv hw] at hτ
      show pX5_sumTurned_43s _ Q _ _ _ _
      unfold pX5_sumTurned_43s
      rw [m_1, hτ.2.1]
      exact ⟨hv1, b_le (by omega) (by omega) (fun _ => hq τ hf hτ) (fun z => by omega)⟩
    | succ d ih =>
      intro i τ hi hf hτ hq
      show pX5_sumTurned_43s (pX5_sumTurned_43 Q (d + 1)) Q _ _ _ _
      unfold pX5_sumTurned_43s
      have e1 : τ 0 1 = nI (M 8 0) := by rw [hτ.2.1, tkN_ne (by decide), enT]
      have hv : vp_in (nI (19 + 5 * i + 4)) 67 := vp_in_nI (by omega) (by decide)
      rw [m_1, e1, bit i (by omega), nI_1]
      refine ⟨hv1, b_le (by omega) (by omega) (fun z => by omega) (fun _ => m_pieceAt (f := 4) ⟨hv, hv, ?_⟩)⟩
      rw [nI_clamp (show 19 + 5 * i + 4 < 2 ^ 31 by omega)]
      exact ih (i + 1) _ (by omega) (Fr0.tr hf Fr0.st) (stp _ hwT enT i (by omega) τ hτ) hq
  have k1 : ∀ d i τ, i + d = M 8 0 → Fr0 μ τ → Rm (tkN M s i) (τ 0) → pX5_sumTurned_2 Q (d + 1) (nI s) (nI i) τ := by
    intro d
    induction d with
    | zero =>
      intro i τ hi hf hτ
      have e : i = M 8 0 := by omega
      subst e
      show pX5_sumTurned_2s _ Q _ _ _
      unfold pX5_sumTurned_2s
      have e1 : τ 0 1 = nI (M 8 0) := by rw [hτ.2.1, tkN_ne (by decide)]
      rw [m_1, e1]
      exact ⟨hv1, b_le (by omega) (by omega) (fun _ => m_sum hwT hτ ⟨_, k2 _ (M 8 0) 0 τ (by omega) hf (by rw [tkN_0]; exact hτ) h⟩) (fun z => by omega)⟩
    | succ d ih =>
      intro i τ hi hf hτ
      show pX5_sumTurned_2s (pX5_sumTurned_2 Q (d + 1)) Q _ _ _
      unfold pX5_sumTurned_2s
      have e1 : τ 0 1 = nI (M 8 0) := by rw [hτ.2.1, tkN_ne (by decide)]
      have hv : vp_in (nI (19 + 5 * i + 4)) 67 := vp_in_nI (by omega) (by decide)
      rw [m_1, e1, bit i (by omega), nI_1]
      refine ⟨hv1, b_le (by omega) (by omega) (fun z => by omega) (fun _ => m_pieceAt (f := 4) ⟨hv, hv, ?_⟩)⟩
      rw [nI_clamp (show 19 + 5 * i + 4 < 2 ^ 31 by omega)]
      exact ih (i + 1) _ (by omega) (Fr0.tr hf Fr0.st) (stp M hw rfl i (by omega) τ hτ)
  exact ⟨_, k1 (M 8 0) 0 μ (by omega) Fr0.rfl (by rw [tkN_0]; exact hm)⟩
/-- turning a set makes the sum small enough -/
def tok (M : Nx) (v s : Nat) : Prop := sumN (tkN M s (M 8 0)) ≤ v
/-- the fewest, and of these the least, of the sets from a to below b -/
def Opt (M : Nx) (v a b c : Nat) : Prop := tok M v c ∧ a ≤ c ∧ c < b ∧ ∀ t, a ≤ t → t < b → tok M v t → (pop c < pop t ∨ (pop c = pop t ∧ c ≤ t))
theorem shl1 : ∀ n, n < 9 → (1 : Int32) <<< (nI n &&& 31) = nI (2 ^ n) := by decide +kernel
theorem c_turn (hw : Wf M) (hc : Rc M (S 0)) {v : Nat} (hv : v < 1000) {Q : Int32 → (Nat → Mx) → Prop} (h1 : ∀ c S', Opt M v 0 (2 ^ (M 8 0)) c → T2 S S' → Q (nI c) S') (h0 : ∀ S', (∀ t, t < 2 ^ (M 8 0) → ¬ tok M v t) → T2 S S' → pX4_found S' 3 Q) : ∃ m, pX4_turn_32 Q m (nI v) 9 0 0 (va_up S 2 (S 0)) := by
  have h8 := hw.1
  have hp := p256 h8
  have key : ∀ d s fw ch S', s + d = 2 ^ (M 8 0) → T2 S S' → (∀ f, f ≠ 7 → S' 2 f = S 0 f) → ((fw = 9 ∧ ch = 0 ∧ ∀ t, t < s → ¬ tok M v t) ∨ (fw = pop ch ∧ Opt M v 0 s ch)) → pX4_turn_32 Q (d + 1) (nI v) (nI fw) (nI ch) (nI s) S' := by
    intro d
    induction d with
    | zero =>
      intro s fw ch S' hd hT h7 hI
      have e : s = 2 ^ (M 8 0) := by omega
      show pX4_turn_32s _ Q _ _ _ _ _
      unfold pX4_turn_32s pX4_turn_114
      rw [hT 0 (by decide), hc.1, shl1 _ (by omega)]
      refine b_le (by omega) (by omega) (fun _ => ?_) (fun z => by omega)
      rcases hI with ⟨e1, e2, hn⟩ | ⟨e1, ho⟩
      · subst e1
        exact ⟨fun _ => h0 S' (fun t ht => hn t (by omega)) hT, fun y => absurd (by decide) y⟩
      · have hpl := pop_le ch (by have := ho.2.2.1; omega)
        rw [e] at ho
        exact b_lt (a := 8) (by decide) (by omega) (fun z => by omega) (fun _ => h1 ch S' ho hT)
    | succ d ih =>
      intro s fw ch S' hd hT h7 hI
      show pX4_turn_32s (pX4_turn_32 Q (d + 1)) Q _ _ _ _ _
      unfold pX4_turn_32s pX4_turn_93
      have hps := pop_le s (by omega)
      have hfw : fw ≤ 9 := by
        rcases hI with ⟨e1, _⟩ | ⟨e1, ho⟩
        · omega
        · have := pop_le ch (by have := ho.2.2.1; omega)
          omega
      rw [hT 0 (by decide), hc.1, shl1 _ (by omega), nI_1, va_up_self]
      refine b_le (by omega) (by omega) (fun z => by omega) (fun _ => c_bits (by omega) (b_le (by omega) (by omega) (fun z => ?_) (fun z => ?_)))
      · refine ih (s + 1) fw ch S' (by omega) hT h7 ?_
        rcases hI with ⟨e1, e2, hn⟩ | ⟨e1, o1, o2, o3, o4⟩
        · omega
        · refine Or.inr ⟨e1, o1, o2, by omega, fun t t1 t2 t3 => ?_⟩
          by_cases et : t = s
          · subst et
            omega
          · exact o4 t t1 (by omega) t3
      · have hst := Rc_tk hw hc h7 (s := s) (by omega)
        have hwt := Wf_tk hw (s := s) (M 8 0)
        have hst2 := sumN_lt hwt
        refine c_sum hwt hst (b_lt (by omega) (by omega) (fun y => ?_) (fun y => ?_))
        · refine ih (s + 1) fw ch _ (by omega) hT.up (fun f hf => by rw [va_up_self, st_nf hf]; exact h7 f hf) ?_
          have nok : ¬ tok M v s := by unfold tok; omega
          rcases hI with ⟨e1, e2, hn⟩ | ⟨e1, o1, o2, o3, o4⟩
          · refine Or.inl ⟨e1, e2, fun t ht => ?_⟩
            by_cases et : t = s
            · subst et
              exact nok
            · exact hn t (by omega)
          · refine Or.inr ⟨e1, o1, o2, by omega, fun t t1 t2 t3 => ?_⟩
            by_cases et : t = s
            · subst et
              exact absurd t3 nok
            · exact o4 t t1 (by omega) t3
        · refine ih (s + 1) (pop s) s _ (by omega) hT.up (fun f hf => by rw [va_up_self, st_nf hf]; exact h7 f hf) ?_
          refine Or.inr ⟨rfl, y, by omega, by omega, fun t t1 t2 t3 => ?_⟩
          by_cases et : t = s
          · subst et
            omega
          · rcases hI with ⟨e1, e2, hn⟩ | ⟨e1, o1, o2, o3, o4⟩
            · exact absurd t3 (hn t (by omega))
            · have := o4 t t1 (by omega) t3
              omega
  exact ⟨_, key (2 ^ (M 8 0)) 0 9 0 _ (by omega) T2.rfl.up (fun f _ => by rw [va_up_self]) (Or.inl ⟨rfl, rfl, fun t ht => absurd ht (by omega)⟩)⟩
theorem m_every (hm : Rm M (μ 0)) (h8 : M 8 0 ≤ 8) {Q : Int32 → Prop} (h : Q (nI (2 ^ (M 8 0) - 1))) : pX5_everything μ Q := by
  have hp : 0 < 2 ^ (M 8 0) := Nat.two_pow_pos _
  have e : nI (2 ^ (M 8 0)) - 1 = nI (2 ^ (M 8 0) - 1) := pk_sub (b := 1) hp
  unfold pX5_everything
  rw [m_1, hm.2.1, shl1 _ (by omega), e]
  exact ⟨v_1 (by decide) (by decide), h⟩
def bstI (b : Option Nat) : Int32 := match b with
  | none => -1
  | some c => nI c
theorem m_turn (hw : Wf M) (hm : Rm M (μ 0)) {v : Nat} (hv : v < 1000) {Q : Int32 → Mx → Prop} (h1 : ∀ c μ', Opt M v 0 (2 ^ (M 8 0)) c → Fr0 μ μ' → Rm M (μ' 0) → Q (nI c) μ') (h0 : ∀ μ', (∀ t, t < 2 ^ (M 8 0) → ¬ tok M v t) → Fr0 μ μ' → Rm M (μ' 0) → pX5_finding μ' (-1000004) Q) : pX5_turn μ (nI v) Q := by
  have h8 := hw.1
  have hp := p256 h8
  have hp0 : 0 < 2 ^ (M 8 0) := Nat.two_pow_pos _
  have es : ∀ r, nI r + (-1) = nI r - 1 := fun r => (Int32.sub_eq_add_neg (nI r) 1).symm
  have key : ∀ r b μ', r ≤ 2 ^ (M 8 0) → Fr0 μ μ' → Rm M (μ' 0) → ((b = none ∧ ∀ t, r ≤ t → t < 2 ^ (M 8 0) → ¬ tok M v t) ∨ (∃ c, b = some c ∧ Opt M v r (2 ^ (M 8 0)) c)) → pX5_turn_25 Q (r + 1) (nI v) (bstI b) (nI r - 1) μ' := by
    intro r
    induction r with
    | zero =>
      intro b μ' hr hf hm' hI
      show pX5_turn_25s _ Q _ _ _ _
      unfold pX5_turn_25s
      refine ⟨fun _ => ?_, fun y => absurd (by decide) y⟩
      rcases hI with ⟨e, hn⟩ | ⟨c, e, ho⟩
      · subst e
        exact m_orNone_n (h0 μ' (fun t ht => hn t (by omega) ht) hf hm')
      · subst e
        exact m_orNone_y (by have := ho.2.2.1; omega) (h1 c μ' ho hf hm')
    | succ r ih =>
      intro b μ' hr hf hm' hI
      have er : nI (r + 1) - 1 = nI r := nI_pred r
      have hst2 := sumN_lt (Wf_tk hw (s := r) (M 8 0))
      show pX5_turn_25s (pX5_turn_25 Q (r + 1)) Q _ _ _ _
      unfold pX5_turn_25s
      rw [er]
      have t44 : (tok M v r → ∀ t, r < t → t < 2 ^ (M 8 0) → tok M v t → (pop r < pop t ∨ (pop r = pop t ∧ r ≤ t))) → pX5_turn_44 (pX5_turn_25 Q (r + 1)) Q (nI v) (bstI b) (nI r) μ' := by
        intro hbest
        unfold pX5_turn_44 pX5_turn_57 pX5_turn_58
        rw [es]
        refine m_sumT hw hm' (by omega) (fun μ2 hf2 hm2 => b_lt (by omega) (by omega) (fun y => ?_) (fun y => ?_))
        · refine ih b μ2 (by omega) (Fr0.tr hf hf2) hm2 ?_
          have nok : ¬ tok M v r := by unfold tok; omega
          rcases hI with ⟨e, hn⟩ | ⟨c, e, o1, o2, o3, o4⟩
          · refine Or.inl ⟨e, fun t a1 a2 => ?_⟩
            by_cases et : t = r
            · subst et; exact nok
            · exact hn t (by omega) a2
          · refine Or.inr ⟨c, e, o1, by omega, o3, fun t a1 a2 a3 => ?_⟩
            by_cases et : t = r
            · subst et; exact absurd a3 nok
            · exact o4 t (by omega) a2 a3
        · have okr : tok M v r := y
          refine ih (some r) μ2 (by omega) (Fr0.tr hf hf2) hm2 (Or.inr ⟨r, rfl, okr, by omega, by omega, fun t a1 a2 a3 => ?_⟩)
          by_cases et : t = r
          · subst et; omega
          · exact hbest okr t (by omega) a2 a3
      refine ⟨fun y => absurd y (nI_pos (by omega)), fun _ => ?_⟩
      rcases hI with ⟨e, hn⟩ | ⟨c, e, o1, o2, o3, o4⟩
      · subst e
        exact ⟨fun _ => t44 (fun _ t a1 a2 a3 => absurd a3 (hn t (by omega) a2)), fun y => absurd (by decide) y⟩
      · subst e
        have hpc := pop_le c (by omega)
        have hpr := pop_le r (by omega)
        refine ⟨fun y => absurd y (nI_pos (by omega)), fun _ => m_bits (by omega) (m_bits (by omega) (b_lt (by omega) (by omega) (fun y => ?_) (fun y => ?_)))⟩
        · unfold pX5_turn_57 pX5_turn_58
          rw [es]
          refine ih (some c) μ' (by omega) hf hm' (Or.inr ⟨c, rfl, o1, by omega, o3, fun t a1 a2 a3 => ?_⟩)
          by_cases et : t = r
          · subst et; omega
          · exact o4 t (by omega) a2 a3
        · refine t44 (fun _ t a1 a2 a3 => ?_)
          have := o4 t (by omega) a2 a3
          omega
  unfold pX5_turn
  refine my (n := 1000) (by decide) hv (by decide) (t1' (m_every hm h8 ⟨2 ^ (M 8 0) + 1, ?_⟩))
  · have hk := key (2 ^ (M 8 0)) none μ (Nat.le_refl _) Fr0.rfl hm (Or.inl ⟨rfl, fun t a1 a2 => by omega⟩)
    have e : nI (2 ^ (M 8 0)) - 1 = nI (2 ^ (M 8 0) - 1) := pk_sub (b := 1) hp0
    rw [e] at hk
    exact hk
theorem ok21 : OK_21 Inv := by
  intro S μ x1 hI
  have hI' := hI
  obtain ⟨M, hw, hc, hm, ho⟩ := hI'
  unfold pX4_turn pX1_takeFrom
  refine c_isToldSum (fun v hv e => t1' ?_) (fun o1 => t0' (c_found 0 (by decide) rfl ?_))
  · subst e
    refine c_turn hw hc hv (fun c S' hO hT => m_turn hw hm hv (fun c' μ' hO' hf hm' => ⟨?_, ho.inv hw (hT.rc hc) hm' hT.fs hf.fm⟩) (fun μ' hn hf hm' => absurd hO.1 (hn c hO.2.2.1))) (fun S' hn hT => c_found 3 (by decide) rfl (m_turn hw hm hv (fun c' μ' hO' hf hm' => absurd hO'.1 (hn c' hO'.2.2.1)) (fun μ' hn' hf hm' => fin (ho.inv hw (hT.rc hc) hm' hT.fs hf.fm) 3 (by decide) (by decide))))
    have a := hO.2.2.2 c' (by omega) hO'.2.2.1 hO'.1
    have b := hO'.2.2.2 c (by omega) hO.2.2.1 hO.1
    have e : c = c' := by omega
    rw [e]
  · unfold pX5_turn
    exact mn (n := 1000) (by decide) o1 (by decide) (t0' (fin hI 0 (by decide) (by decide)))
end Turn
