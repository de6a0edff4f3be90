section Fits
variable {M : Nx} {S S' : Nat → Mx} {σ μ μ' : Mx} {V : Nat → Int32} {z : Nat}
def ask (z : Nat) : Nat := if 12 < z then 12 else z
/-- the sums go as told -/
def goP (M : Nx) (V : Nat → Int32) (z : Nat) : Prop := ∀ k, k < ask z → (V k = -1 ∨ V k = nI (sumN (yrN M k)))
def goB (M : Nx) (V : Nat → Int32) (z : Nat) : Bool := decide (∀ k, k < ask z → (V k = -1 ∨ V k = nI (sumN (yrN M k))))
theorem ask_le : ask z ≤ 12 ∧ ask z ≤ z := by
  unfold ask
  split <;> omega
theorem go_end (M : Nx) (V : Nat → Int32) (z : Nat) : ∃ e, e ≤ ask z ∧ (∀ i, i < e → (V i = -1 ∨ V i = nI (sumN (yrN M i)))) ∧ ((e = ask z ∧ goB M V z = true) ∨ (e < ask z ∧ V e ≠ -1 ∧ V e ≠ nI (sumN (yrN M e)) ∧ goB M V z = false)) := by
  obtain ⟨e, h1, h2, h3⟩ := lst (P := fun k => k = ask z ∨ ¬ (V k = -1 ∨ V k = nI (sumN (yrN M k)))) (ask z) (Or.inl rfl)
  have hg : ∀ i, i < e → (V i = -1 ∨ V i = nI (sumN (yrN M i))) := fun i hi => Classical.byContradiction (fun y => h3 i hi (Or.inr y))
  refine ⟨e, h1, hg, ?_⟩
  by_cases c : e = ask z
  · refine Or.inl ⟨c, decide_eq_true (fun k hk => hg k (by omega))⟩
  · rcases h2 with h2 | h2
    · exact absurd h2 c
    · exact Or.inr ⟨by omega, fun y => h2 (Or.inl y), fun y => h2 (Or.inr y), decide_eq_false (fun y => h2 (y e (by omega)))⟩
theorem c_goes (hw : Wf M) {s : Nat} (hs : s < 4) (hz : z ≤ 40) (hc : Rc M (S 2)) (h2 : S (s + 6) 2 0 = nI z) (hV : S (s + 6) 0 = V) {Q : Int32 → (Nat → Mx) → Prop} (h1 : goB M V z = true → ∀ S', T2 S S' → Q 1 S') (h0 : goB M V z = false → ∀ S', T2 S S' → Q 0 S') : pX4_trialGoesAs S s Q := by
  have ha := ask_le (z := z)
  obtain ⟨e, he, hg, hend⟩ := go_end M V z
  have key : ∀ d i S', i + d = e → T2 S S' → Rc (yrN M i) (S' 2) → pX4_trialGoesAs_12 s Q (d + 1) (nI (ask z)) (nI i) S' := by
    intro d
    induction d with
    | zero =>
      intro i S' hi hT hc'
      have ei : i = e := by omega
      subst ei
      show pX4_trialGoesAs_12s s _ Q _ _ _
      unfold pX4_trialGoesAs_12s
      rw [hT (s + 6) (by omega), hV, nI_clamp (by omega)]
      rcases hend with ⟨e1, e2⟩ | ⟨e1, e2, e3, e4⟩
      · exact b_le (by omega) (by omega) (fun _ => h1 e2 S' hT) (fun y => by omega)
      · have hv : vp_in (nI i) 40 := vp_in_nI (by omega) (by decide)
        exact b_le (by omega) (by omega) (fun y => by omega) (fun _ => ⟨hv, fun y => absurd y e2, fun _ => ⟨hv, c_sum (Wf_yr hw i) hc' ⟨fun y => absurd y e3, fun _ => h0 e4 S' hT⟩⟩⟩)
    | succ d ih =>
      intro i S' hi hT hc'
      have hgi := hg i (by omega)
      show pX4_trialGoesAs_12s s (pX4_trialGoesAs_12 s Q (d + 1)) Q _ _ _
      unfold pX4_trialGoesAs_12s
      have hv : vp_in (nI i) 40 := vp_in_nI (by omega) (by decide)
      have hy : pX4_trialGoesAs_45 s (pX4_trialGoesAs_12 s Q (d + 1)) Q (nI (ask z)) (nI i) S' := by
        unfold pX4_trialGoesAs_45
        refine c_year (Wf_yr hw i) hc' (fun τ hτ => ?_)
        rw [nI_1]
        exact ih (i + 1) _ (by omega) hT.up (by rw [va_up_self]; exact hτ)
      rw [hT (s + 6) (by omega), hV, nI_clamp (show i < 2 ^ 31 by omega)]
      refine b_le (by omega) (by omega) (fun y => by omega) (fun _ => ⟨hv, fun _ => hy, fun y => ⟨hv, c_sum (Wf_yr hw i) hc' ⟨fun _ => hy, fun y2 => ?_⟩⟩⟩)
      exact absurd hgi (fun q => q.elim y y2)
  unfold pX4_trialGoesAs
  intro v6 e6
  rw [h2] at e6
  have e7 : v6 = nI (ask z) := by
    have hl : (12 : Int32) < nI z ↔ 12 < z := nI_ltI (a := 12) (by decide) (by omega)
    rw [e6]
    unfold ask
    by_cases c : 12 < z
    · rw [if_pos c, if_pos (hl.mpr c)]
      rfl
    · rw [if_neg c, if_neg (fun y => c (hl.mp y))]
  rw [e7]
  exact ⟨_, key e 0 S (by omega) T2.rfl hc⟩
theorem m_isSo (hw : Wf M) {s : Nat} (hs : s < 4) (hz : z ≤ 40) (hm : Rm M (μ 0)) (h18 : μ 18 s = nI z) (h19 : ∀ k, k < 40 → μ 19 (40 * s + k) = V k) {Q : Int32 → Mx → Prop} (h1 : goB M V z = true → ∀ μ', Fm μ μ' → Rm M (μ' 0) → Q 1 μ') (h0 : goB M V z = false → ∀ μ', Fm μ μ' → Rm M (μ' 0) → Q 0 μ') : pX5_isSo μ (nI s) Q := by
  have ha := ask_le (z := z)
  have hvs : vp_in (nI s) 4 := vp_in_nI hs (by decide)
  have hcl : (nI s).toNatClampNeg = s := nI_clamp (by omega)
  obtain ⟨e, he, hg, hend⟩ := go_end M V z
  have f1 : goB M V z = true → ∀ τ, Th μ τ → pX5_isSo_79 Q 1 τ := fun g τ hT => m_ret hw hm hT (fun μ' a b _ => ⟨Or.inr rfl, h1 g μ' b a⟩)
  have f0 : goB M V z = false → ∀ τ, Th μ τ → pX5_isSo_79 Q 0 τ := fun g τ hT => m_ret hw hm hT (fun μ' a b _ => ⟨Or.inl rfl, h0 g μ' b a⟩)
  have key : ∀ d i τ, i + d = e → Th μ τ → Rm (yrN M i) (τ 0) → pX5_isSo_15 Q (d + 2) (nI s) 1 (nI i) τ := by
    intro d
    induction d with
    | zero =>
      intro i τ hi hT hm'
      have ei : i = e := by omega
      subst ei
      show pX5_isSo_15s (pX5_isSo_15 Q 1) Q _ _ _ _
      unfold pX5_isSo_15s
      rw [hcl, hT.2 18 (by decide) (by decide), hT.2 19 (by decide) (by decide), h18, at40, nI_clamp (show 40 * s + i < 2 ^ 31 by omega), h19 i (by omega)]
      rcases hend with ⟨e1, e2⟩ | ⟨e1, e2, e3, e4⟩
      · have F := f1 e2 τ hT
        refine ⟨hvs, b_le (by omega) (by omega) (fun _ => F) (fun y => b_le (a := 12) (by decide) (by omega) (fun _ => F) (fun y2 => ?_))⟩
        unfold ask at e1
        split at e1 <;> omega
      · refine ⟨hvs, b_le (by omega) (by omega) (fun y => by omega) (fun y => b_le (a := 12) (by decide) (by omega) (fun y => by omega) (fun y2 => t1 ⟨vp_in_nI (by omega) (by decide), ?_⟩))⟩
        intro v46 e46
        subst e46
        refine ⟨fun y => absurd y e2, fun _ => m_sum (Wf_yr hw i) hm' ⟨fun _ => ?_, fun y => absurd y e3⟩⟩
        unfold pX5_isSo_68
        refine m_year (Wf_yr hw i) hm' (fun τ2 hm2 hf2 => ?_)
        have F := f0 e4 τ2 (hT.fr hf2)
        show pX5_isSo_15s _ Q _ _ _ _
        unfold pX5_isSo_15s
        exact ⟨hvs, fun _ => F, fun _ => ⟨fun _ => F, fun _ => t0 F⟩⟩
    | succ d ih =>
      intro i τ hi hT hm'
      have hgi := hg i (by omega)
      show pX5_isSo_15s (pX5_isSo_15 Q (d + 2)) Q _ _ _ _
      unfold pX5_isSo_15s
      have hy : pX5_isSo_63 (pX5_isSo_15 Q (d + 2)) Q (nI s) (nI i) τ := by
        unfold pX5_isSo_63 pX5_isSo_68
        refine m_year (Wf_yr hw i) hm' (fun τ2 hm2 hf2 => ?_)
        rw [nI_1]
        exact ih (i + 1) τ2 (by omega) (hT.fr hf2) hm2
      rw [hcl, hT.2 18 (by decide) (by decide), hT.2 19 (by decide) (by decide), h18, at40, nI_clamp (show 40 * s + i < 2 ^ 31 by omega), h19 i (by omega)]
      refine ⟨hvs, b_le (by omega) (by omega) (fun y => by omega) (fun y => b_le (a := 12) (by decide) (by omega) (fun y => by omega) (fun y2 => t1 ⟨vp_in_nI (by omega) (by decide), ?_⟩))⟩
      intro v46 e46
      subst e46
      refine ⟨fun _ => hy, fun y => m_sum (Wf_yr hw i) hm' ⟨fun y2 => ?_, fun _ => hy⟩⟩
      exact absurd hgi (fun q => q.elim y y2)
  unfold pX5_isSo
  exact m_aside hm (fun τ hT hτ => ⟨_, key e 0 τ (by omega) hT hτ⟩)
def ctN (G : Nat → Bool) : Nat → Nat
  | 0 => 0
  | k + 1 => ctN G k + (if G k then 1 else 0)
theorem ctN_le {G : Nat → Bool} : ∀ k, ctN G k ≤ k
  | 0 => Nat.le_refl 0
  | k + 1 => by
    have := ctN_le (G := G) k
    rw [ctN]
    split <;> omega
def ftN (M : Nx) (p l r : Nat) : Nx := sn (sn M 1 p l) 2 p r
theorem ft_ft {p l r l' r' : Nat} : ftN (ftN M p l' r') p l r = ftN M p l r := by
  funext g j
  unfold ftN sn
  by_cases h2 : g = 2 ∧ j = p
  · rw [if_pos h2, if_pos h2]
  · rw [if_neg h2, if_neg h2]
    by_cases h1 : g = 1 ∧ j = p
    · rw [if_pos h1, if_neg h2, if_pos h1]
    · rw [if_neg h1, if_neg h2, if_neg h1, if_neg h1]
theorem ft_id {p : Nat} : ftN M p (M 1 p) (M 2 p) = M := by
  funext g j
  unfold ftN sn
  by_cases h2 : g = 2 ∧ j = p
  · rw [if_pos h2, h2.1, h2.2]
  · rw [if_neg h2]
    by_cases h1 : g = 1 ∧ j = p
    · rw [if_pos h1, h1.1, h1.2]
    · rw [if_neg h1]
theorem Wf_ft (hw : Wf M) {p l r : Nat} (hl : l < 10) (hr : r < 10) : Wf (ftN M p l r) := Wf_s2 (Wf_s1 hw hl) hr
theorem ft_n {p l r : Nat} : ftN M p l r 8 0 = M 8 0 := by
  unfold ftN
  rw [sn_ne (by decide), sn_ne (by decide)]
theorem c_fits (hw : Wf M) (hc : Rc M (S 0)) {s p : Nat} (hs : s < 4) (hz : z ≤ 40) (hp : p < M 8 0) (h2 : S (s + 6) 2 0 = nI z) {Q : Int32 → (Nat → Mx) → Prop} (h : ∀ S', T2 S S' → Q (nI (ctN (fun j => goB (ftN M p (j / 10) (j % 10)) (S (s + 6) 0) z) 100)) S') : ∃ m, pX4_fits_39 Q m (nI s) (nI p) 0 0 S := by
  have h8 := hw.1
  have hcl : (nI s).toNatClampNeg = s := nI_clamp (by omega)
  have hclp : (nI p).toNatClampNeg = p := nI_clamp (by omega)
  have hvp : vp_in (nI p) 8 := vp_in_nI (by omega) (by decide)
  have inner : ∀ (ih39 : Int32 → Int32 → Int32 → Int32 → (Nat → Mx) → Prop) (l : Nat), l < 10 → ∀ d r S', r + d = 10 → T2 S S' → (∀ S', T2 S S' → ih39 (nI s) (nI p) (nI (ctN (fun j => goB (ftN M p (j / 10) (j % 10)) (S (s + 6) 0) z) (10 * (l + 1)))) (nI (l + 1)) S') → pX4_fits_49 ih39 Q (d + 1) (nI s) (nI p) (nI (ctN (fun j => goB (ftN M p (j / 10) (j % 10)) (S (s + 6) 0) z) (10 * l + r))) (nI l) (nI r) S' := by
    intro ih39 l hl d
    induction d with
    | zero =>
      intro r S' hr hT hq
      have e : 10 * l + r = 10 * (l + 1) := by omega
      show pX4_fits_49s ih39 _ Q _ _ _ _ _ _
      unfold pX4_fits_49s
      rw [e, nI_1]
      exact b_lt (a := 9) (by decide) (by omega) (fun _ => hq S' hT) (fun y => by omega)
    | succ d ih =>
      intro r S' hr hT hq
      show pX4_fits_49s ih39 (pX4_fits_49 ih39 Q (d + 1)) Q _ _ _ _ _ _
      unfold pX4_fits_49s pX4_fits_105 pX1_takeFrom
      have e1 : (10 * l + r) / 10 = l := by omega
      have e2 : (10 * l + r) % 10 = r := by omega
      have hnx := fun S2 hT2 => ih (r + 1) S2 (by omega) hT2 hq
      rw [show 10 * l + (r + 1) = (10 * l + r) + 1 by omega] at hnx
      rw [hcl, hclp, nI_1]
      refine b_lt (a := 9) (by decide) (by omega) (fun y => by omega) (fun _ => ⟨hvp, hvp, vp_in_nI hs (by decide), ?_⟩)
      have hwf := Wf_ft hw (p := p) hl (show r < 10 by omega)
      refine c_goes (M := ftN M p l r) (V := S (s + 6) 0) (z := z) hwf hs hz ?_ ?_ ?_ (fun g S2 hT2 => t1 ?_) (fun g S2 hT2 => t0 ?_)
      · rw [va_up_self, va_up_self, va_up_self, hT 0 (by decide)]
        exact Rc_s2 (Rc_s1 hc)
      · rw [va_up_ne _ _ (by omega), va_up_ne _ _ (by omega), va_up_ne _ _ (by omega), hT (s + 6) (by omega)]
        exact h2
      · rw [va_up_ne _ _ (by omega), va_up_ne _ _ (by omega), va_up_ne _ _ (by omega), hT (s + 6) (by omega)]
      · have hn := hnx S2 (fun k hk => (hT2 k hk).trans (hT.up.up.up k hk))
        have eg : goB (ftN M p ((10 * l + r) / 10) ((10 * l + r) % 10)) (S (s + 6) 0) z = true := by rw [e1, e2]; exact g
        rw [ctN, if_pos eg] at hn
        rw [nI_1, nI_1]
        exact hn
      · have hn := hnx S2 (fun k hk => (hT2 k hk).trans (hT.up.up.up k hk))
        have eg : ¬ goB (ftN M p ((10 * l + r) / 10) ((10 * l + r) % 10)) (S (s + 6) 0) z = true := by rw [e1, e2, g]; decide
        rw [ctN, if_neg eg] at hn
        rw [nI_1]
        exact hn
  have outer : ∀ d l S', l + d = 10 → T2 S S' → pX4_fits_39 Q (d + 1) (nI s) (nI p) (nI (ctN (fun j => goB (ftN M p (j / 10) (j % 10)) (S (s + 6) 0) z) (10 * l))) (nI l) S' := by
    intro d
    induction d with
    | zero =>
      intro l S' hl hT
      have e : l = 10 := by omega
      subst e
      show pX4_fits_39s _ Q _ _ _ _ _
      unfold pX4_fits_39s
      exact b_lt (a := 9) (by decide) (by decide) (fun _ => h S' hT) (fun y => by omega)
    | succ d ih =>
      intro l S' hl hT
      show pX4_fits_39s (pX4_fits_39 Q (d + 1)) Q _ _ _ _ _
      unfold pX4_fits_39s
      exact b_lt (a := 9) (by decide) (by omega) (fun y => by omega) (fun _ => ⟨_, inner (pX4_fits_39 Q (d + 1)) l (by omega) 10 0 S' (by omega) hT (fun S2 hT2 => ih (l + 1) S2 (by omega) hT2)⟩)
  exact ⟨_, outer 10 0 S (by omega) T2.rfl⟩
theorem m_fits (hw : Wf M) (hm : Rm M (μ 0)) {s p : Nat} (hs : s < 4) (hz : z ≤ 40) (hp : p < M 8 0) (h18 : μ 18 s = nI z) (h19 : ∀ k, k < 40 → μ 19 (40 * s + k) = V k) {Q : Int32 → Mx → Prop} (h : ∀ μ', Fm μ μ' → Rm M (μ' 0) → Q (nI (ctN (fun j => goB (ftN M p (j / 10) (j % 10)) V z) 100)) μ') : ∃ m, pX5_fits_43 Q m (nI s) (nI p) (nI (M 1 p)) (nI (M 2 p)) 0 0 μ := by
  have h8 := hw.1
  have hv1 : vp_in (nI (19 + 5 * p + 1)) 67 := vp_in_nI (by omega) (by decide)
  have hv2 : vp_in (nI (19 + 5 * p + 2)) 67 := vp_in_nI (by omega) (by decide)
  have hc1 : (nI (19 + 5 * p + 1)).toNatClampNeg = 19 + 5 * p + 1 := nI_clamp (by omega)
  have hc2 : (nI (19 + 5 * p + 2)).toNatClampNeg = 19 + 5 * p + 2 := nI_clamp (by omega)
  have key : ∀ d i l r τ, i + d = 100 → Fm μ τ → Rm (ftN M p l r) (τ 0) → pX5_fits_43 Q (d + 1) (nI s) (nI p) (nI (M 1 p)) (nI (M 2 p)) (nI (ctN (fun j => goB (ftN M p (j / 10) (j % 10)) V z) i)) (nI i) τ := by
    intro d
    induction d with
    | zero =>
      intro i l r τ hi hf hτ
      have e : i = 100 := by omega
      subst e
      show pX5_fits_43s _ Q _ _ _ _ _ _ _
      unfold pX5_fits_43s
      refine b_le (a := 100) (by decide) (by decide) (fun _ => m_pieceAt (f := 1) ⟨hv1, m_pieceAt (f := 2) ⟨hv2, ?_⟩⟩) (fun y => by omega)
      rw [hc1, hc2]
      refine h _ (Fm.tr hf (Fm.tr Fr0.st.fm Fr0.st.fm)) ?_
      have := Rm_s2 (Rm_s1 hτ (p := p) (v := M 1 p) (by omega)) (p := p) (v := M 2 p) (by omega)
      have e : sn (sn (ftN M p l r) 1 p (M 1 p)) 2 p (M 2 p) = M := (ft_ft (M := M) (p := p) (l := M 1 p) (r := M 2 p) (l' := l) (r' := r)).trans ft_id
      rw [e] at this
      exact this
    | succ d ih =>
      intro i l r τ hi hf hτ
      show pX5_fits_43s (pX5_fits_43 Q (d + 1)) Q _ _ _ _ _ _ _
      unfold pX5_fits_43s pX5_fits_95
      have ed : nI i / 10 = nI (i / 10) := pk_div (d := 10) (by omega) (by decide) (by decide)
      rw [rem10 (by omega), ed, nI_1]
      refine b_le (a := 100) (by decide) (by omega) (fun y => by omega) (fun _ => m_pieceAt (f := 1) ⟨hv1, m_pieceAt (f := 2) ⟨hv2, ?_⟩⟩)
      rw [hc1, hc2]
      have hr0 := Rm_s2 (Rm_s1 hτ (p := p) (v := i / 10) (by omega)) (p := p) (v := i % 10) (by omega)
      have e : sn (sn (ftN M p l r) 1 p (i / 10)) 2 p (i % 10) = ftN M p (i / 10) (i % 10) := ft_ft (M := M) (p := p) (l := i / 10) (r := i % 10) (l' := l) (r' := r)
      rw [e] at hr0
      have hf2 := Fm.tr hf (Fm.tr (Fr0.st (μ := τ) (j := 19 + 5 * p + 1) (x := nI (i / 10))).fm (Fr0.st (j := 19 + 5 * p + 2) (x := nI (i % 10))).fm)
      refine m_isSo (V := V) (z := z) (Wf_ft hw (by omega) (by omega)) hs hz hr0 ?_ (fun k hk => ?_) (fun g μ2 hf3 hm3 => t1 ?_) (fun g μ2 hf3 hm3 => t0 ?_)
      · rw [hf2 18 (by decide) (by decide) (by decide)]; exact h18
      · rw [hf2 19 (by decide) (by decide) (by decide)]; exact h19 k hk
      · intro v ev
        have hn := ih (i + 1) _ _ μ2 (by omega) (Fm.tr hf2 hf3) hm3
        rw [ctN, if_pos g] at hn
        rw [ev, nI_1]
        exact hn
      · intro v ev
        have e0 : nI (ctN (fun j => goB (ftN M p (j / 10) (j % 10)) V z) i) + 0 = nI (ctN (fun j => goB (ftN M p (j / 10) (j % 10)) V z) i) := nI_add _ 0
        have hn := ih (i + 1) _ _ μ2 (by omega) (Fm.tr hf2 hf3) hm3
        rw [ctN, if_neg (by rw [g]; decide)] at hn
        rw [ev, e0]
        exact hn
  have hm0 : Rm (ftN M p (M 1 p) (M 2 p)) (μ 0) := by rw [ft_id]; exact hm
  exact ⟨_, key 100 0 _ _ μ (by omega) Fm.rfl hm0⟩
theorem ok22 : OK_22 Inv := by
  intro S μ x1 x2 hI
  have hI' := hI
  obtain ⟨M, hw, hc, hm, ho⟩ := hI'
  have h8 := hw.1
  unfold pX4_fits
  refine c_wrong ho.2.2.2 (fun o => ⟨fun y => absurd y (by decide), fun _ => c_found 0 (by decide) rfl ?_⟩) (fun s w z hs e h e0 => ⟨fun y => absurd y (by decide), fun _ => c_found 5 (by decide) rfl ?_⟩) (fun s w z hs e h e0 => ⟨fun _ => ?_, fun y => absurd (by decide) y⟩)
  · unfold pX5_fits
    have G : ∀ g : Int32, pX5_lacks μ x1 g (fun r7 => (r7 = 0 → pX5_pieceIs μ x2 1 (fun r24 => pX5_pieceIs μ x2 2 (fun r32 => ∃ n, pX5_fits_43 (fun r1 u1 => (-1000001) - nI 0 = r1 ∧ Inv (fS S 0) u1) n x1 x2 r24 r32 0 0 μ))) ∧ (¬ r7 = 0 → pX5_finding μ r7 (fun r1 u1 => (-1000001) - nI 0 = r1 ∧ Inv (fS S 0) u1))) := fun g => m_lacks_o o ⟨fun y => absurd y (by decide), fun _ => fin hI 0 (by decide) (by decide)⟩
    exact m_isPiece hm h8 (fun _ _ _ => G 1) (fun _ => G 0)
  · subst e
    unfold pX5_fits
    have G : ∀ g : Int32, pX5_lacks μ (nI s) g (fun r7 => (r7 = 0 → pX5_pieceIs μ x2 1 (fun r24 => pX5_pieceIs μ x2 2 (fun r32 => ∃ n, pX5_fits_43 (fun r1 u1 => (-1000001) - nI 5 = r1 ∧ Inv (fS S 5) u1) n (nI s) x2 r24 r32 0 0 μ))) ∧ (¬ r7 = 0 → pX5_finding μ r7 (fun r1 u1 => (-1000001) - nI 5 = r1 ∧ Inv (fS S 5) u1))) := fun g => m_lacks_m hs h e0 ⟨fun y => absurd y (by decide), fun _ => fin hI 5 (by decide) (by decide)⟩
    exact m_isPiece hm h8 (fun _ _ _ => G 1) (fun _ => G 0)
  · have h' := h
    obtain ⟨g1, g2, g3, g4, g5, g6, g7⟩ := h'
    subst e
    refine c_has hc h8 (fun p hp e => t1' ?_) (fun o1 => t0' (c_found 0 (by decide) rfl ?_))
    · subst e
      refine c_fits hw hc hs g2 hp g5 (fun S' hT => ?_)
      unfold pX5_fits
      refine m_y_isPiece hm h8 hp (m_lacks_g hs h e0 (fun y => absurd y (by decide)) (fun _ => t0 (m_f1 hw hm hp (m_f2 hw hm hp (m_fits hw hm hs g2 hp g6 g7 (fun μ' hf hm' => ⟨rfl, ?_⟩))))))
      exact ho.inv hw (hT.rc hc) hm' hT.fs hf
    · unfold pX5_fits
      exact m_n_isPiece hm h8 o1 (m_lacks_g hs h e0 (fun _ => ⟨fun y => absurd y (by decide), fun _ => fin hI 0 (by decide) (by decide)⟩) (fun y => absurd rfl y))
theorem k_k {p k k' : Nat} : sn (sn M 0 p k') 0 p k = sn M 0 p k := by
  funext g j
  unfold sn
  by_cases h1 : g = 0 ∧ j = p
  · rw [if_pos h1, if_pos h1]
  · rw [if_neg h1, if_neg h1, if_neg h1]
theorem k_id {p : Nat} : sn M 0 p (M 0 p) = M := by
  funext g j
  unfold sn
  by_cases h1 : g = 0 ∧ j = p
  · rw [if_pos h1, h1.1, h1.2]
  · rw [if_neg h1]
theorem c_kinds (hw : Wf M) (hc : Rc M (S 0)) {s p : Nat} (hs : s < 4) (hz : z ≤ 40) (hp : p < M 8 0) (h2 : S (s + 6) 2 0 = nI z) {Q : Int32 → (Nat → Mx) → Prop} (h : ∀ S', T2 S S' → Q (nI (bS (fun j => goB (sn M 0 p j) (S (s + 6) 0) z) 7)) S') : ∃ m, pX4_kinds_39 Q m (nI s) (nI p) 0 0 S := by
  have h8 := hw.1
  have hcl : (nI s).toNatClampNeg = s := nI_clamp (by omega)
  have hclp : (nI p).toNatClampNeg = p := nI_clamp (by omega)
  have hvp : vp_in (nI p) 8 := vp_in_nI (by omega) (by decide)
  have key : ∀ d k S', k + d = 7 → T2 S S' → pX4_kinds_39 Q (d + 1) (nI s) (nI p) (nI (bS (fun j => goB (sn M 0 p j) (S (s + 6) 0) z) k)) (nI k) S' := by
    intro d
    induction d with
    | zero =>
      intro k S' hk hT
      have e : k = 7 := by omega
      subst e
      show pX4_kinds_39s _ Q _ _ _ _ _
      unfold pX4_kinds_39s
      exact b_le (a := 7) (by decide) (by decide) (fun _ => h S' hT) (fun y => by omega)
    | succ d ih =>
      intro k S' hk hT
      show pX4_kinds_39s (pX4_kinds_39 Q (d + 1)) Q _ _ _ _ _
      unfold pX4_kinds_39s pX4_kinds_90 pX1_takeFrom
      rw [hcl, hclp, nI_1]
      refine b_le (a := 7) (by decide) (by omega) (fun y => by omega) (fun _ => ⟨hvp, vp_in_nI hs (by decide), ?_⟩)
      refine c_goes (M := sn M 0 p k) (V := S (s + 6) 0) (z := z) (Wf_s0 hw (by omega)) hs hz ?_ ?_ ?_ (fun g S2 hT2 => t1 ?_) (fun g S2 hT2 => t0 ?_)
      · rw [va_up_self, va_up_self, hT 0 (by decide)]
        exact Rc_s0 hc
      · rw [va_up_ne _ _ (by omega), va_up_ne _ _ (by omega), hT (s + 6) (by omega)]
        exact h2
      · rw [va_up_ne _ _ (by omega), va_up_ne _ _ (by omega), hT (s + 6) (by omega)]
      · intro v ev
        have hn := ih (k + 1) S2 (by omega) (fun k hk => (hT2 k hk).trans (hT.up.up k hk))
        rw [bS, if_pos g] at hn
        rw [or_bit' (by omega) (bS_lt k)] at ev
        rw [ev]
        exact hn
      · have hn := ih (k + 1) S2 (by omega) (fun k hk => (hT2 k hk).trans (hT.up.up k hk))
        rw [bS, if_neg (by rw [g]; decide)] at hn
        exact hn
  exact ⟨_, key 7 0 S (by omega) T2.rfl⟩
theorem m_kinds (hw : Wf M) (hm : Rm M (μ 0)) {s p : Nat} (hs : s < 4) (hz : z ≤ 40) (hp : p < M 8 0) (h18 : μ 18 s = nI z) (h19 : ∀ k, k < 40 → μ 19 (40 * s + k) = V k) {Q : Int32 → Mx → Prop} (h : ∀ μ', Fm μ μ' → Rm M (μ' 0) → Q (nI (bS (fun j => goB (sn M 0 p j) V z) 7)) μ') : ∃ m, pX5_kinds_43 Q m (nI s) (nI (19 + 5 * p + 0)) (nI (M 0 p)) 0 0 μ := by
  have h8 := hw.1
  have hv1 : vp_in (nI (19 + 5 * p + 0)) 67 := vp_in_nI (by omega) (by decide)
  have hc1 : (nI (19 + 5 * p + 0)).toNatClampNeg = 19 + 5 * p := nI_clamp (by omega)
  have key : ∀ d k k' τ, k + d = 7 → Fm μ τ → Rm (sn M 0 p k') (τ 0) → pX5_kinds_43 Q (d + 1) (nI s) (nI (19 + 5 * p + 0)) (nI (M 0 p)) (nI (bS (fun j => goB (sn M 0 p j) V z) k)) (nI k) τ := by
    intro d
    induction d with
    | zero =>
      intro k k' τ hk hf hτ
      have e : k = 7 := by omega
      subst e
      show pX5_kinds_43s _ Q _ _ _ _ _ _
      unfold pX5_kinds_43s
      rw [hc1]
      refine b_lt (a := 6) (by decide) (by decide) (fun _ => ⟨hv1, h _ (Fm.tr hf Fr0.st.fm) ?_⟩) (fun y => by omega)
      have := Rm_s0 hτ (p := p) (v := M 0 p) (by omega)
      rw [k_k, k_id] at this
      exact this
    | succ d ih =>
      intro k k' τ hk hf hτ
      show pX5_kinds_43s (pX5_kinds_43 Q (d + 1)) Q _ _ _ _ _ _
      unfold pX5_kinds_43s pX5_kinds_77
      rw [hc1, nI_1]
      have hr0 := Rm_s0 hτ (p := p) (v := k) (by omega)
      rw [k_k] at hr0
      have hf2 := Fm.tr hf (Fr0.st (μ := τ) (j := 19 + 5 * p) (x := nI k)).fm
      refine b_lt (a := 6) (by decide) (by omega) (fun y => by omega) (fun _ => ⟨hv1, m_isSo (V := V) (z := z) (Wf_s0 hw (by omega)) hs hz hr0 ?_ (fun k hk => ?_) (fun g μ2 hf3 hm3 => t1 ?_) (fun g μ2 hf3 hm3 => t0 ?_)⟩)
      · rw [hf2 18 (by decide) (by decide) (by decide)]; exact h18
      · rw [hf2 19 (by decide) (by decide) (by decide)]; exact h19 k hk
      · intro v ev
        have hn := ih (k + 1) _ μ2 (by omega) (Fm.tr hf2 hf3) hm3
        rw [bS, if_pos g] at hn
        rw [or_bit' (by omega) (bS_lt k)] at ev
        rw [ev]
        exact hn
      · intro v ev
        have hn := ih (k + 1) _ μ2 (by omega) (Fm.tr hf2 hf3) hm3
        rw [bS, if_neg (by rw [g]; decide)] at hn
        rw [or_0] at ev
        rw [ev]
        exact hn
  have hm0 : Rm (sn M 0 p (M 0 p)) (μ 0) := by rw [k_id]; exact hm
  exact ⟨_, key 7 0 _ μ (by omega) Fm.rfl hm0⟩
theorem ok23 : OK_23 Inv := by
  intro S μ x1 x2 hI
  have hI' := hI
  obtain ⟨M, hw, hc, hm, ho⟩ := hI'
  have h8 := hw.1
  unfold pX4_kinds
  refine c_wrong ho.2.2.2 (fun o => ⟨fun y => absurd y (by decide), fun _ => c_found 0 (by decide) rfl ?_⟩) (fun s w z hs e h e0 => ⟨fun y => absurd y (by decide), fun _ => c_found 5 (by decide) rfl ?_⟩) (fun s w z hs e h e0 => ⟨fun _ => ?_, fun y => absurd (by decide) y⟩)
  · unfold pX5_kinds
    exact m_isPiece hm h8 (fun _ _ _ => m_lacks_o o ⟨fun y => absurd y (by decide), fun _ => fin hI 0 (by decide) (by decide)⟩) (fun _ => m_lacks_o o ⟨fun y => absurd y (by decide), fun _ => fin hI 0 (by decide) (by decide)⟩)
  · subst e
    unfold pX5_kinds
    exact m_isPiece hm h8 (fun _ _ _ => m_lacks_m hs h e0 ⟨fun y => absurd y (by decide), fun _ => fin hI 5 (by decide) (by decide)⟩) (fun _ => m_lacks_m hs h e0 ⟨fun y => absurd y (by decide), fun _ => fin hI 5 (by decide) (by decide)⟩)
  · have h' := h
    obtain ⟨g1, g2, g3, g4, g5, g6, g7⟩ := h'
    subst e
    refine c_has hc h8 (fun p hp e => t1' ?_) (fun o1 => t0' (c_found 0 (by decide) rfl ?_))
    · subst e
      refine c_kinds hw hc hs g2 hp g5 (fun S' hT => ?_)
      unfold pX5_kinds
      refine m_y_isPiece hm h8 hp (m_lacks_g hs h e0 (fun y => absurd y (by decide)) (fun _ => t0 (m_pieceAt (f := 0) ⟨vp_in_nI (by omega) (by decide), ?_⟩)))
      intro v35 e35
      rw [nI_clamp (by omega), Nat.add_zero, (hm.2.2.2.2.2.1 p hp).1] at e35
      subst e35
      exact m_kinds hw hm hs g2 hp g6 g7 (fun μ' hf hm' => ⟨rfl, ho.inv hw (hT.rc hc) hm' hT.fs hf⟩)
    · unfold pX5_kinds
      exact m_n_isPiece hm h8 o1 (m_lacks_g hs h e0 (fun _ => ⟨fun y => absurd y (by decide), fun _ => fin hI 0 (by decide) (by decide)⟩) (fun y => absurd rfl y))
end Fits
