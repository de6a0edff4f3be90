/-! THE BEST LAYING's places, and the best value -/
section Value
variable {M : Nx} {S S' : Nat → Mx} {σ σ2 μ μ' : Mx}
/-- what is laid after i steps, and the last one -/
def wk (M : Nx) : Nat → Nat × Option Nat
  | 0 => (0, none)
  | i + 1 => ((wk M i).1 + 2 ^ (baO (fO M (wk M i).2 (allN M - (wk M i).1)) (allN M - (wk M i).1) (M 8 0)), some (baO (fO M (wk M i).2 (allN M - (wk M i).1)) (allN M - (wk M i).1) (M 8 0)))
theorem pop_s : ∀ L, L < 256 → ∀ q, q < 8 → L / 2 ^ q % 2 = 0 → pop (L + 2 ^ q) = pop L + 1 := by decide +kernel
theorem pop_all : ∀ n, n < 9 → pop (2 ^ n - 1) = n := by decide +kernel
theorem wk_st (hw : Wf M) {i : Nat} (hi : i < M 8 0) (hL : (wk M i).1 ≤ allN M) (hp : pop (wk M i).1 = i) (hb : bok M (wk M i).2) : baO (fO M (wk M i).2 (allN M - (wk M i).1)) (allN M - (wk M i).1) (M 8 0) < M 8 0 ∧ (wk M i).1 / 2 ^ (baO (fO M (wk M i).2 (allN M - (wk M i).1)) (allN M - (wk M i).1) (M 8 0)) % 2 = 0 ∧ (allN M - (wk M i).1) / 2 ^ (baO (fO M (wk M i).2 (allN M - (wk M i).1)) (allN M - (wk M i).1) (M 8 0)) % 2 = 1 ∧ allN M - (wk M i).1 ≠ 0 := by
  have h8 := hw.1
  have h1 := all_lt (M := M) h8
  have h0 : allN M - (wk M i).1 ≠ 0 := by
    intro e
    have e1 : (wk M i).1 = 2 ^ (M 8 0) - 1 := by
      have : allN M = 2 ^ (M 8 0) - 1 := rfl
      omega
    rw [e1, pop_all _ (by omega)] at hp
    omega
  obtain ⟨g1, g2⟩ := ba_ok hw hb (O := allN M - (wk M i).1) (by omega) h0
  have g3 := all_bit h8 hL g1
  refine ⟨g1, ?_, g2, h0⟩
  rw [g2] at g3
  omega
theorem wk_ok (hw : Wf M) : ∀ i, i ≤ M 8 0 → (wk M i).1 ≤ allN M ∧ pop (wk M i).1 = i ∧ bok M (wk M i).2
  | 0, _ => ⟨by simp only [wk]; exact Nat.zero_le _, by simp only [wk]; decide, by simp only [wk]; trivial⟩
  | i + 1, hi => by
    have h8 := hw.1
    have h1 := all_lt (M := M) h8
    obtain ⟨a, b, c⟩ := wk_ok hw i (by omega)
    obtain ⟨g1, g2, g3, _⟩ := wk_st hw (by omega) a b c
    have g4 := bit_le g3
    have g5 := pop_s _ (by omega) _ (by omega) g2
    refine ⟨?_, ?_, g1⟩
    · show (wk M i).1 + _ ≤ allN M
      omega
    · show pop ((wk M i).1 + _) = i + 1
      rw [g5, b]
theorem c_pieceAt (hw : Wf M) (hc : Rc M σ2) {i : Nat} (hi : i < M 8 0) {Q : Int32 → Mx → Prop} (h : ∀ τ, Q (bstI (wk M (i + 1)).2) τ) : pX0_pieceAt σ σ2 (nI i) Q := by
  have h8 := hw.1
  have h1 := all_lt (M := M) h8
  unfold pX0_pieceAt
  rw [hc.1]
  refine c_weigh hw hc (fun τ hl => c_fill hw hl (fun υ hl' hR => ?_))
  have key : ∀ d j, j + d = i + 1 → pX0_pieceAt_21 σ2 Q (d + 1) (nI i) (nI (wk M j).1) (bstI (wk M j).2) (nI j) υ := by
    intro d
    induction d with
    | zero =>
      intro j hj
      have e : j = i + 1 := by omega
      subst e
      show pX0_pieceAt_21s σ2 _ Q _ _ _ _ _
      unfold pX0_pieceAt_21s
      exact b_lt (by omega) (by omega) (fun _ => h υ) (fun y => by omega)
    | succ d ih =>
      intro j hj
      show pX0_pieceAt_21s σ2 (pX0_pieceAt_21 σ2 Q (d + 1)) Q _ _ _ _ _
      unfold pX0_pieceAt_21s
      obtain ⟨a, b, c⟩ := wk_ok hw j (by omega)
      obtain ⟨g1, g2, g3, _⟩ := wk_st hw (by omega) a b c
      rw [hc.1, nI_1]
      refine b_lt (by omega) (by omega) (fun y => by omega) (fun _ => c_next hw hl' hR c a ?_)
      intro v e
      rw [bb1 _ (by omega) _ (by omega) g2] at e
      subst e
      exact ih (j + 1) (by omega)
  exact ⟨_, key (i + 1) 0 (by omega)⟩
theorem m_bestAt (hw : Wf M) (hm : Rm M (μ 0)) {i : Nat} (hi : i < M 8 0) {Q : Int32 → Mx → Prop} (h : ∀ τ, Fr5 μ τ → Rm M (τ 0) → Q (bstI (wk M (i + 1)).2) τ) : pX5_bestAt μ (nI i) Q := by
  have h8 := hw.1
  have h1 := all_lt (M := M) h8
  unfold pX5_bestAt
  refine m_y_isPiece hm h8 hi (t1' (m_table hw hm (fun υ hf hm' ht => m_every hm' h8 ?_)))
  have key : ∀ d j, j + d = i + 1 → pX5_bestAt_29 Q (d + 1) (nI i) (nI (allN M - (wk M j).1)) (bstI (wk M j).2) (nI j) υ := by
    intro d
    induction d with
    | zero =>
      intro j hj
      have e : j = i + 1 := by omega
      subst e
      show pX5_bestAt_29s _ Q _ _ _ _ _
      unfold pX5_bestAt_29s
      exact b_lt (by omega) (by omega) (fun _ => h υ hf hm') (fun y => by omega)
    | succ d ih =>
      intro j hj
      show pX5_bestAt_29s (pX5_bestAt_29 Q (d + 1)) Q _ _ _ _ _
      unfold pX5_bestAt_29s
      obtain ⟨a, b, c⟩ := wk_ok hw j (by omega)
      obtain ⟨g1, g2, g3, g4⟩ := wk_st hw (by omega) a b c
      rw [nI_1]
      refine b_lt (by omega) (by omega) (fun y => by omega) (fun _ => m_next hw hm' ht c (by omega) g4 ?_)
      intro v e
      rw [bb2 _ (by omega) _ (by omega) g3] at e
      subst e
      have hn := ih (j + 1) (by omega)
      have ee : allN M - (wk M (j + 1)).1 = allN M - (wk M j).1 - 2 ^ (baO (fO M (wk M j).2 (allN M - (wk M j).1)) (allN M - (wk M j).1) (M 8 0)) := by
        show allN M - ((wk M j).1 + _) = _
        omega
      rw [ee] at hn
      exact hn
  exact ⟨_, key (i + 1) 0 (by omega)⟩
theorem ok17 : OK_17 Inv := by
  intro S μ x1 hI
  have hI' := hI
  obtain ⟨M, hw, hc, hm, ho⟩ := hI'
  have h8 := hw.1
  unfold pX4_bestAt
  refine c_has hc h8 (fun p hp e => t1 ?_) (fun o1 => t0 (c_found 0 (by decide) rfl ?_))
  · subst e
    refine c_pieceAt hw hc hp (fun τ => ?_)
    exact m_bestAt hw hm hp (fun υ hf hm' => ⟨rfl, ho.inv hw (by rw [va_up_ne _ _ (by decide)]; exact hc) hm' Fs.u3 hf.fm⟩)
  · unfold pX5_bestAt
    exact m_n_isPiece hm h8 o1 (t0' (fin hI 0 (by decide) (by decide)))
/-- the least of f 0, f 1, .., and the first where it is so -/
def mv (f : Nat → Nat) : Nat → Nat
  | 0 => 1000000
  | k + 1 => if f k < mv f k then f k else mv f k
def bvi (f : Nat → Nat) : Nat → Nat
  | 0 => 0
  | k + 1 => if f k < mv f k then k else bvi f k
theorem mv_m {f : Nat → Nat} : ∀ k, mv f k ≤ 1000000
  | 0 => Nat.le_refl _
  | k + 1 => by
    have := mv_m (f := f) k
    rw [mv]
    split <;> omega
theorem be_be {p w v v' : Nat} : beN (beN M p w v') p w v = beN M p w v := by
  unfold beN
  funext g j
  unfold sn
  by_cases h1 : g = (if w = 4 then 7 else w) ∧ j = p
  · rw [if_pos h1, if_pos h1]
  · rw [if_neg h1, if_neg h1, if_neg h1]
theorem be_id {p w : Nat} (h : w < 4) : beN M p w (M w p) = M := by
  unfold beN
  rw [if_neg (by omega)]
  funext g j
  unfold sn
  by_cases h1 : g = w ∧ j = p
  · rw [if_pos h1, h1.1, h1.2]
  · rw [if_neg h1]
/-- only the trial and the laying change -/
def T23 (S S' : Nat → Mx) : Prop := ∀ k, k ≠ 2 → k ≠ 3 → S' k = S k
theorem T23.fs (h : T23 S S') : Fs S S' := fun k _ b c => h k b c
theorem c_value (hw : Wf M) (hc : Rc M (S 0)) {p w n : Nat} (hp : p < M 8 0) (h2 : w < 2) (hn : n < 100) (hb : ∀ v, v ≤ n → bw w v) {Q : Int32 → (Nat → Mx) → Prop} (h : ∀ S', T23 S S' → Q (nI (bvi (fun v => bsN (beN M p w v)) (n + 1))) S') : pX4_bestValueFor S (nI p) (nI w) (nI n) Q := by
  have h8 := hw.1
  unfold pX4_bestValueFor pX1_takeFrom
  have key : ∀ d k v' S', k + d = n + 1 → T23 S S' → bw w v' → Rc (beN M p w v') (S' 2) → pX4_bestValueFor_21 Q (d + 1) (nI p) (nI w) (nI n) (nI (mv (fun v => bsN (beN M p w v)) k)) (nI (bvi (fun v => bsN (beN M p w v)) k)) (nI k) S' := by
    intro d
    induction d with
    | zero =>
      intro k v' S' hk hT hv' hτ
      have e : k = n + 1 := by omega
      subst e
      show pX4_bestValueFor_21s _ Q _ _ _ _ _ _ _
      unfold pX4_bestValueFor_21s
      exact b_lt (by omega) (by omega) (fun _ => h S' hT) (fun y => by omega)
    | succ d ih =>
      intro k v' S' hk hT hv' hτ
      show pX4_bestValueFor_21s (pX4_bestValueFor_21 Q (d + 1)) Q _ _ _ _ _ _ _
      unfold pX4_bestValueFor_21s pX4_bestValueFor_66
      have hbk := hb k (by omega)
      have ebv : nI k = bv w k := by
        unfold bv
        rw [if_neg (by omega)]
      have hm := mv_m (f := fun v => bsN (beN M p w v)) k
      have hwk : Wf (beN M p w k) := Wf_be hw (by omega) hbk
      have hbs := bs_lt hwk
      have B : ∀ (P : Mx → Prop), (∀ σ', Rc (beN M p w k) σ' → P σ') → pX1_become (S' 2) (nI p) (nI w) (nI k) P := by
        intro P hP
        rw [ebv]
        refine c_become (Wf_be hw (by omega) hv') hτ (by rw [be_n (by omega)]; exact hp) (by omega) hbk (fun σ' hσ => hP σ' ?_)
        rw [be_be] at hσ
        exact hσ
      rw [nI_1]
      refine b_lt (by omega) (by omega) (fun y => by omega) (fun _ => B _ (fun σ' hσ => ?_))
      refine c_leastSum hwk (by rw [va_up_self]; exact hσ) (fun τ => b_le (by omega) (by omega) (fun z => ?_) (fun z => ?_))
      · have hh := ih (k + 1) k (va_up (va_up S' 2 σ') 3 τ) (by omega) (fun j j2 j3 => by rw [va_up_ne _ _ j3, va_up_ne _ _ j2]; exact hT j j2 j3) hbk (by rw [va_up_ne _ _ (by decide), va_up_self]; exact hσ)
        rw [mv, bvi, if_neg (show ¬ bsN (beN M p w k) < mv (fun v => bsN (beN M p w v)) k by omega), if_neg (show ¬ bsN (beN M p w k) < mv (fun v => bsN (beN M p w v)) k by omega)] at hh
        exact hh
      · have hh := ih (k + 1) k (va_up (va_up S' 2 σ') 3 τ) (by omega) (fun j j2 j3 => by rw [va_up_ne _ _ j3, va_up_ne _ _ j2]; exact hT j j2 j3) hbk (by rw [va_up_ne _ _ (by decide), va_up_self]; exact hσ)
        rw [mv, bvi, if_pos z, if_pos z] at hh
        exact hh
  have hv0 : bw w (M w p) := by
    have hh := hw.2.2.2.1 p hp
    have e2 : w = 0 ∨ w = 1 := by omega
    rcases e2 with e | e <;> subst e
    · exact bw0 hh.1
    · exact bw1 hh.2.1
  exact ⟨_, key (n + 1) 0 (M w p) _ (by omega) (fun j j2 _ => va_up_ne _ _ j2) hv0 (by rw [va_up_self, be_id (by omega)]; exact hc)⟩
theorem m_value (hw : Wf M) (hm : Rm M (μ 0)) {p w n : Nat} (hp : p < M 8 0) (h2 : w < 2) (hn : n < 100) (hb : ∀ v, v < n → bw w v) {Q : Int32 → Mx → Prop} (h : ∀ μ', Fm μ μ' → Rm M (μ' 0) → Q (nI (bvi (fun v => bsN (beN M p w v)) n)) μ') : pX5_cheapest μ (nI (19 + 5 * p + w)) (nI n) Q := by
  have h8 := hw.1
  have hv1 : vp_in (nI (19 + 5 * p + w)) 67 := vp_in_nI (by omega) (by decide)
  have hc1 : (nI (19 + 5 * p + w)).toNatClampNeg = 19 + 5 * p + w := nI_clamp (by omega)
  have ebv : ∀ k, bv w k = nI k := by
    intro k
    unfold bv
    rw [if_neg (by omega)]
  have e0 : μ 0 (19 + 5 * p + w) = nI (M w p) := by
    have hh := hm.2.2.2.2.2.1 p hp
    have e2 : w = 0 ∨ w = 1 := by omega
    rcases e2 with e | e <;> subst e
    · exact hh.1
    · exact hh.2.1
  unfold pX5_cheapest
  refine ⟨hv1, ?_⟩
  intro v6 e6
  rw [hc1, e0] at e6
  subst e6
  have key : ∀ d k v' τ, k + d = n → Fm μ τ → Rm (beN M p w v') (τ 0) → pX5_cheapest_17 Q (d + 1) (nI (19 + 5 * p + w)) (nI n) (nI (M w p)) (nI (bvi (fun v => bsN (beN M p w v)) k)) (nI (mv (fun v => bsN (beN M p w v)) k)) (nI k) τ := by
    intro d
    induction d with
    | zero =>
      intro k v' τ hk hf hτ
      have e : k = n := by omega
      subst e
      show pX5_cheapest_17s _ Q _ _ _ _ _ _ _
      unfold pX5_cheapest_17s
      rw [hc1]
      refine b_le (by omega) (by omega) (fun _ => ⟨hv1, h _ (Fm.tr hf Fr0.st.fm) ?_⟩) (fun y => by omega)
      have hr := Rm_be hτ (p := p) (w := w) (v := M w p) (by omega) (by omega)
      rw [be_be, be_id (by omega), ebv] at hr
      exact hr
    | succ d ih =>
      intro k v' τ hk hf hτ
      show pX5_cheapest_17s (pX5_cheapest_17 Q (d + 1)) Q _ _ _ _ _ _ _
      unfold pX5_cheapest_17s pX5_cheapest_52
      have hbk := hb k (by omega)
      have hwk : Wf (beN M p w k) := Wf_be hw (by omega) hbk
      have hbs := bs_lt hwk
      have hmm := mv_m (f := fun v => bsN (beN M p w v)) k
      have hr := Rm_be hτ (p := p) (w := w) (v := k) (by omega) (by omega)
      rw [be_be, ebv] at hr
      rw [hc1, nI_1]
      have hf2 := Fm.tr hf (Fr0.st (μ := τ) (j := 19 + 5 * p + w) (x := nI k)).fm
      refine b_le (by omega) (by omega) (fun y => by omega) (fun _ => ⟨hv1, m_bestSum hwk hr (fun υ hυ hmυ => b_le (by omega) (by omega) (fun z => ?_) (fun z => ?_))⟩)
      · have hh := ih (k + 1) k υ (by omega) (Fm.tr hf2 hυ.fm) hmυ
        rw [mv, bvi, if_neg (show ¬ bsN (beN M p w k) < mv (fun v => bsN (beN M p w v)) k by omega), if_neg (show ¬ bsN (beN M p w k) < mv (fun v => bsN (beN M p w v)) k by omega)] at hh
        exact hh
      · have hh := ih (k + 1) k υ (by omega) (Fm.tr hf2 hυ.fm) hmυ
        rw [mv, bvi, if_pos z, if_pos z] at hh
        exact hh
  exact ⟨_, key n 0 (M w p) μ (by omega) Fm.rfl (by rw [be_id (by omega)]; exact hm)⟩
theorem ok19 : OK_19 Inv := by
  intro S μ x1 hI
  have hI' := hI
  obtain ⟨M, hw, hc, hm, ho⟩ := hI'
  have h8 := hw.1
  unfold pX4_edgeFor
  refine c_has hc h8 (fun p hp e => t1 ?_) (fun o1 => t0 (c_found 0 (by decide) rfl ?_))
  · subst e
    refine c_value (w := 1) (n := 9) hw hc hp (by decide) (by decide) (fun v hv => bw1 (by omega)) (fun S' hT => ?_)
    unfold pX4_edgeFor_27 pX5_edgeFor
    refine m_y_isPiece hm h8 hp (t1 (m_pieceAt (f := 1) (m_value (w := 1) (n := 10) hw hm hp (by decide) (by decide) (fun v hv => bw1 hv) (fun μ' hf hm' => ⟨rfl, ?_⟩))))
    exact ho.inv hw (by rw [hT 0 (by decide) (by decide)]; exact hc) hm' hT.fs hf
  · unfold pX5_edgeFor
    exact m_n_isPiece hm h8 o1 (t0 (fin hI 0 (by decide) (by decide)))
theorem ok20 : OK_20 Inv := by
  intro S μ x1 hI
  have hI' := hI
  obtain ⟨M, hw, hc, hm, ho⟩ := hI'
  have h8 := hw.1
  unfold pX4_kindFor
  refine c_has hc h8 (fun p hp e => t1 ?_) (fun o1 => t0 (c_found 0 (by decide) rfl ?_))
  · subst e
    refine c_value (w := 0) (n := 6) hw hc hp (by decide) (by decide) (fun v hv => bw0 (by omega)) (fun S' hT => ?_)
    unfold pX4_kindFor_27 pX5_kindFor
    refine m_y_isPiece hm h8 hp (t1 (m_pieceAt (f := 0) (m_value (w := 0) (n := 7) hw hm hp (by decide) (by decide) (fun v hv => bw0 hv) (fun μ' hf hm' => ⟨rfl, ?_⟩))))
    exact ho.inv hw (by rw [hT 0 (by decide) (by decide)]; exact hc) hm' hT.fs hf
  · unfold pX5_kindFor
    exact m_n_isPiece hm h8 o1 (t0 (fin hI 0 (by decide) (by decide)))
end Value
