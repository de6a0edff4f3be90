/-! WORDS and NUMBERS -/
def isW (B : Nat → Nat) (l c w : Nat) : Bool := decide (soT B l c = 1 ∧ enT B l c - bgT B l c = slen w ∧ ∀ k, k < slen w → nI (B (bgT B l c + k)) = sbyt w k)
def nuT (B : Nat → Nat) (l c n : Nat) : Bool := decide (soT B l c = 2 ∧ vaT B l c < n)
theorem sl_b : ∀ w, w < 11 → 0 < slen w ∧ slen w < 7 := by decide +kernel
theorem sl_0 : ∀ w, w < 11 → nI (slen w) >>> ((0 : Int32) &&& 31) = nI (slen w) := by decide +kernel
theorem ch1 : ∀ w, w < 11 → ∀ k, k < slen w → (((sbyt w k &&& 255).toUInt32 % 65536).toInt32) = sbyt w k := by decide +kernel
theorem ch2 : ∀ w, w < 11 → ∀ k, k < slen w → (sbyt w k).toUInt32.toUInt16.toUInt32.toInt32 = sbyt w k := by decide +kernel
theorem j_len {w : Nat} (hw : w < 11) {Q : Int32 → Prop} (h : Q (nI (slen w))) : pJ0_length_8abf5 w Q := by
  have h' : Q (nI (slen w) >>> ((0 : Int32) &&& 31)) := by rw [sl_0 w hw]; exact h
  unfold pJ0_length_8abf5 pJ0_coder_7d493 pJ0_coder_7d493_14
  exact t1 ⟨rfl, h'⟩
theorem j_char {w k : Nat} (hw : w < 11) (hk : k < slen w) {Q : Int32 → Prop} (h : Q (sbyt w k)) : pJ0_charAt_5068e w (nI k) Q := by
  have hs := sl_b w hw
  have hn : narrow .char (.int (sbyt w k)) = .int (sbyt w k) := congrArg Value.int (ch2 w hw k hk)
  unfold pJ0_charAt_5068e pJ0_isLatin1_aae02 pJ0_isLatin1_aae02_17 pJ0_isLatin1_aae02_18 pJ1_charAt_3b067 pJ0_checkIndex_df160
  rw [nI_clamp (show k < 2 ^ 31 by omega), ch1 w hw k hk]
  exact t1 (t0' ⟨Or.inr rfl, t1 ⟨nI_pos (by omega), (nI_ltI (by omega) (by omega)).mpr hk, vp_in_nI hk (by omega), hn, hn, h⟩⟩)
section Words
variable {B : Nat → Nat} {l c : Nat} {σ τ : Mx}
theorem isW_t {w : Nat} : isW B l c w = true ↔ (soT B l c = 1 ∧ enT B l c - bgT B l c = slen w ∧ ∀ k, k < slen w → nI (B (bgT B l c + k)) = sbyt w k) := decide_eq_true_iff
theorem isW_f {w : Nat} : isW B l c w = false ↔ ¬ (soT B l c = 1 ∧ enT B l c - bgT B l c = slen w ∧ ∀ k, k < slen w → nI (B (bgT B l c + k)) = sbyt w k) := decide_eq_false_iff_not
theorem nuT_t {n : Nat} : nuT B l c n = true ↔ (soT B l c = 2 ∧ vaT B l c < n) := decide_eq_true_iff
theorem nuT_f {n : Nat} : nuT B l c n = false ↔ ¬ (soT B l c = 2 ∧ vaT B l c < n) := decide_eq_false_iff_not
theorem c_isWord (hB : TB B l) (hc : c ≤ l) (hs : Ct B l c σ) {w : Nat} (hw : w < 11) {Q : Int32 → Prop} (h1 : isW B l c w = true → Q 1) (h0 : isW B l c w = false → Q 0) : pX3_isWord σ w Q := by
  have hl := hB.1
  have hsl := sl_b w hw
  have hs5 := srC_lt (B := B) (l := l) (i := bgT B l c)
  have hso : soT B l c < 5 := hs5
  have hen := en_le (B := B) hc
  have hbe : bgT B l c ≤ enT B l c := enX_ge
  have e : nI (enT B l c) - nI (bgT B l c) = nI (enT B l c - bgT B l c) := pk_sub hbe
  unfold pX3_isWord pX3_isWord_24
  rw [hs.2.1, hs.2.2.1, hs.2.2.2, e]
  refine b_eq' (b := 1) (by omega) (by decide) (fun z => j_len hw (b_eq (by omega) (by omega) (fun z2 => ?_) (fun z2 => h0 (isW_f.mpr (fun q => z2 q.2.1))))) (fun z => h0 (isW_f.mpr (fun q => z q.1)))
  have key : ∀ d k, k + d = slen w → (∀ j, j < k → nI (B (bgT B l c + j)) = sbyt w j) → pX3_isWord_28 w σ Q (d + 1) (nI k) := by
    intro d
    induction d with
    | zero =>
      intro k hk hj
      have ek : k = slen w := by omega
      subst ek
      show pX3_isWord_28s w σ _ Q _
      unfold pX3_isWord_28s
      exact j_len hw (b_le (by omega) (by omega) (fun _ => h1 (isW_t.mpr ⟨z, z2, hj⟩)) (fun y => by omega))
    | succ d ih =>
      intro k hk hj
      show pX3_isWord_28s w σ (pX3_isWord_28 w σ Q (d + 1)) Q _
      unfold pX3_isWord_28s
      rw [hs.2.2.1, nI_add, nI_clamp (show bgT B l c + k < 2 ^ 31 by omega), hs.1.2 (bgT B l c + k) (by omega), nI_1]
      refine j_len hw (b_le (by omega) (by omega) (fun y => by omega) (fun _ => ⟨vp_in_nI (by omega) (by decide), j_char hw (by omega) ⟨fun y => ih (k + 1) (by omega) (fun j hjk => ?_), fun y => h0 (isW_f.mpr (fun q => y (q.2.2 k (by omega))))⟩⟩))
      by_cases ej : j = k
      · rw [ej]; exact y
      · exact hj j (by omega)
  exact ⟨_, key (slen w) 0 (by omega) (fun j hj => absurd hj (by omega))⟩
theorem mS_1 {s : Nat} (h : s < 5) : mS s < 5 ∧ (mS s = 1 ↔ s = 1) ∧ (mS s = 2 ↔ s = 2) ∧ (mS s = 0 ↔ s = 0) ∧ (mS s = 3 ↔ (s = 3 ∨ s = 4)) := by
  unfold mS
  split <;> omega
theorem m_isWord (hB : TB B l) (hb : Bm B l τ) (hc : c ≤ l) (hs : Mt B l c τ) {w : Nat} (hw : w < 11) {Q : Int32 → Prop} (h1 : isW B l c w = true → Q 1) (h0 : isW B l c w = false → Q 0) : pX5_isWord τ w Q := by
  have hl := hB.1
  have hsl := sl_b w hw
  have hs5 := srC_lt (B := B) (l := l) (i := bgT B l c)
  have hso : soT B l c < 5 := hs5
  obtain ⟨ms0, ms1, _, _, _⟩ := mS_1 hso
  have hen := en_le (B := B) hc
  have hbe : bgT B l c ≤ enT B l c := enX_ge
  have e : nI (enT B l c) - nI (bgT B l c) = nI (enT B l c - bgT B l c) := pk_sub hbe
  have Z : ∀ n k, k < 100 → isW B l c w = false → pX5_isWord_32 w τ Q (n + 1) 0 (nI k) := by
    intro n k hk hf
    show pX5_isWord_32s w τ _ Q _ _
    unfold pX5_isWord_32s pX5_isWord_75
    exact j_len hw (b_le (by omega) (by omega) (fun _ => ⟨Or.inl rfl, h0 hf⟩) (fun _ => t0 ⟨Or.inl rfl, h0 hf⟩))
  unfold pX5_isWord pX5_isWord_28 pX5_isWord_29
  rw [hs.1, hs.2.1, hs.2.2.1, e]
  refine b_eq' (b := 1) (by omega) (by decide) (fun z => j_len hw (b_eq' (by omega) (by omega) (fun z2 => ?_) (fun z2 => ⟨1, Z 0 0 (by decide) (isW_f.mpr (fun q => z2 q.2.1))⟩))) (fun z => ⟨1, Z 0 0 (by decide) (isW_f.mpr (fun q => z (ms1.mpr q.1)))⟩)
  have key : ∀ d k, k + d = slen w → (∀ j, j < k → nI (B (bgT B l c + j)) = sbyt w j) → pX5_isWord_32 w τ Q (d + 1) 1 (nI k) := by
    intro d
    induction d with
    | zero =>
      intro k hk hj
      have ek : k = slen w := by omega
      subst ek
      show pX5_isWord_32s w τ _ Q _ _
      unfold pX5_isWord_32s pX5_isWord_75
      exact j_len hw (b_le (by omega) (by omega) (fun _ => ⟨Or.inr rfl, h1 (isW_t.mpr ⟨ms1.mp z, z2, hj⟩)⟩) (fun y => by omega))
    | succ d ih =>
      intro k hk hj
      show pX5_isWord_32s w τ (pX5_isWord_32 w τ Q (d + 1)) Q _ _
      unfold pX5_isWord_32s pX5_isWord_68
      rw [hs.1, nI_add, nI_clamp (show bgT B l c + k < 2 ^ 31 by omega), hb.2 (bgT B l c + k) (by omega), nI_1]
      refine j_len hw (b_le (by omega) (by omega) (fun y => by omega) (fun _ => t1 ⟨vp_in_nI (by omega) (by decide), j_char hw (by omega) ⟨fun y => Z d (k + 1) (by omega) (isW_f.mpr (fun q => y (q.2.2 k (by omega)))), fun y => ih (k + 1) (by omega) (fun j hjk => ?_)⟩⟩))
      by_cases ej : j = k
      · rw [ej]; exact y
      · exact hj j (by omega)
  exact ⟨_, key (slen w) 0 (by omega) (fun j hj => absurd hj (by omega))⟩
theorem dig (h : soT B l c = 2) {j : Nat} (h1 : bgT B l c ≤ j) (h2 : j < enT B l c) (hc : c ≤ l) : 48 ≤ B j ∧ B j ≤ 57 ∧ j < l := by
  have hl := en_le (B := B) hc
  have hs : srC B l (bgT B l c) = 2 := h
  have e : enT B l c = rn (fun j => decide (srC B l j = srC B l (bgT B l c))) (l - bgT B l c) (bgT B l c) := by
    unfold enT enX
    rw [if_neg (by omega), if_pos (Or.inr hs)]
  rw [e] at h2
  have h3 := of_decide_eq_true (rn_in _ _ j h1 h2)
  rw [hs] at h3
  have hj : j < l := by omega
  have h4 := (srC_2 hj).mp h3
  exact ⟨h4.1, h4.2, hj⟩
theorem va_le : vaT B l c ≤ 10000 := vf_le _
theorem le_m1 {a n : Nat} (ha : a < 2 ^ 30) (hn : n < 2 ^ 30) : nI a ≤ nI n - 1 ↔ a < n := by
  have e1 : (nI n - 1).toInt = (n : Int) - 1 := pk_sub_toInt (b := 1) hn (by decide)
  rw [Int32.le_iff_toInt_le, e1, nI_toInt (by omega)]
  omega
theorem c_number (hB : TB B l) (hc : c ≤ l) (hs : Ct B l c σ) {n : Nat} (hn : n ≤ 10000) {x : Int32} (hx : x = nI n - 1) {Q : Int32 → Mx → Prop} (h1 : nuT B l c n = true → ∀ σ', Ct B l (enT B l c) σ' → Q (nI (vaT B l c)) σ') (h0 : nuT B l c n = false → Q (-1) σ) : pX3_readNumber σ x Q := by
  have hl := hB.1
  have hs5 := srC_lt (B := B) (l := l) (i := bgT B l c)
  have hso : soT B l c < 5 := hs5
  have hen := en_le (B := B) hc
  have hbe : bgT B l c ≤ enT B l c := enX_ge
  subst hx
  unfold pX3_readNumber pX3_readNumber_18 pX3_valueOfDigits
  rw [hs.2.1]
  refine b_eq' (b := 2) (by omega) (by decide) (fun z => ?_) (fun z => ⟨fun y => ?_, fun _ => h0 (nuT_f.mpr (fun q => z q.1))⟩)
  · intro v6 e6
    rw [hs.2.2.1] at e6
    subst e6
    have key : ∀ (P : Int32 → Prop), P (nI (vaT B l c)) → ∀ d k, bgT B l c + k + d = enT B l c → pX3_valueOfDigits_7 σ P (d + 1) (nI (vf B (bgT B l c) k)) (nI (bgT B l c + k)) := by
      intro P hP d
      induction d with
      | zero =>
        intro k hk
        have ev : vf B (bgT B l c) k = vaT B l c := by
          unfold vaT
          rw [show enT B l c - bgT B l c = k by omega]
        show pX3_valueOfDigits_7s σ _ P _ _
        unfold pX3_valueOfDigits_7s
        rw [hs.2.2.2, ev]
        exact b_le (by omega) (by omega) (fun _ => hP) (fun y => by omega)
      | succ d ih =>
        intro k hk
        have hv := vf_le (B := B) (b := bgT B l c) k
        obtain ⟨g1, g2, g3⟩ := dig z (show bgT B l c ≤ bgT B l c + k by omega) (by omega) hc
        show pX3_valueOfDigits_7s σ (pX3_valueOfDigits_7 σ P (d + 1)) P _ _
        unfold pX3_valueOfDigits_7s
        rw [hs.2.2.2, nI_clamp (show bgT B l c + k < 2 ^ 31 by omega), hs.1.2 (bgT B l c + k) (by omega), nI_1, vfI hv g1 g2]
        refine b_le (by omega) (by omega) (fun y => by omega) (fun _ => ⟨vp_in_nI (by omega) (by decide), ?_⟩)
        intro v ev
        have e4 : ∀ X : Nat, X < 2 ^ 31 → (if 10000 < nI X then 10000 else nI X) = nI (if 10000 < X then 10000 else X) := by
          intro X hX
          have e5 : 10000 < nI X ↔ 10000 < X := nI_ltI (a := 10000) (by decide) hX
          by_cases y : 10000 < X
          · rw [if_pos (e5.mpr y), if_pos y]; rfl
          · rw [if_neg (fun q => y (e5.mp q)), if_neg y]
        rw [e4 _ (by omega)] at ev
        have hn := ih (k + 1) (by omega)
        rw [vf] at hn
        rw [ev]
        exact hn
    have hva := va_le (B := B) (l := l) (c := c)
    exact ⟨_, key _ ⟨fun y => c_step hB hc hs (h1 (nuT_t.mpr ⟨z, (le_m1 (by omega) (by omega)).mp y⟩)), fun y => h0 (nuT_f.mpr (fun q => y ((le_m1 (by omega) (by omega)).mpr q.2)))⟩ (enT B l c - bgT B l c) 0 (by omega)⟩
  · have y2 : nI 10000 ≤ nI n - 1 := y
    have := (le_m1 (by decide) (by omega)).mp y2
    omega
/-! the reference's steps -/
def Fk (τ τ' : Mx) : Prop := ∀ f, f < 8 ∨ 12 < f → τ' f = τ f
def Fw (τ τ' : Mx) : Prop := ∀ f, f ≠ 12 → τ' f = τ f
theorem m_go (hB : TB B l) (hb : Bm B l τ) (hc : c ≤ l) (hs : Mt B l c τ) (h12 : τ 12 0 = 0) {Q : Mx → Prop} (h : ∀ τ', Mt B l (enT B l c) τ' → τ' 12 0 = 0 → Fk τ τ' → Q τ') : pX5_must τ 1 Q := by
  unfold pX5_must pX5_must_17 pX5_must_31
  rw [h12]
  refine t0' (t1' ⟨Or.inl rfl, ?_⟩)
  have e : (st τ 12 0 0) 12 0 = 0 := st_at
  rw [e]
  refine t0' (m_token0 hB ?_ ?_ (en_le hc) (fun τ' hf hm => h τ' hm ?_ (fun f hf2 => ?_)))
  · unfold Bm
    rw [st_nf (by decide), st_nf (by decide)]
    exact hb
  · rw [st_nf (by decide)]
    exact hs.2.1
  · rw [hf 12 (by omega)]
    exact e
  · rw [hf f (by omega), st_nf (by omega)]
theorem m_no (h12 : τ 12 0 = 0) {Q : Mx → Prop} (h : ∀ τ', τ' 12 0 = 1 → Fw τ τ' → Q τ') : pX5_must τ 0 Q := by
  unfold pX5_must pX5_must_12 pX5_must_17 pX5_must_31
  rw [h12]
  have e : (st τ 12 0 1) 12 0 = 1 := st_at
  refine t0' (t0' ⟨Or.inr rfl, ?_⟩)
  rw [e]
  exact t1' (h _ e (fun f hf => st_nf hf))
theorem m_wr (h12 : τ 12 0 = 1) {y : Int32} {Q : Mx → Prop} (h : ∀ τ', τ' 12 0 = 1 → Fw τ τ' → Q τ') : pX5_must τ y Q := by
  unfold pX5_must pX5_must_12
  rw [h12]
  refine t1' ?_
  unfold pX5_must_17 pX5_must_31
  have e : (st τ 12 0 1) 12 0 = 1 := st_at
  rw [e]
  exact ⟨Or.inr rfl, t1' (h _ e (fun f hf => st_nf hf))⟩
theorem m_num (hB : TB B l) (hb : Bm B l τ) (hc : c ≤ l) (hs : Mt B l c τ) (h12 : τ 12 0 = 0) {n : Nat} (hn : n ≤ 10000) {x : Int32} (hx : x = nI n - 1) {Q : Int32 → Mx → Prop} (h1 : nuT B l c n = true → ∀ τ', Mt B l (enT B l c) τ' → τ' 12 0 = 0 → Fk τ τ' → Q (nI (vaT B l c)) τ') (h0 : nuT B l c n = false → ∀ v τ', τ' 12 0 = 1 → Fw τ τ' → Q v τ') : pX5_number τ 0 x Q := by
  have hs5 := srC_lt (B := B) (l := l) (i := bgT B l c)
  have hso : soT B l c < 5 := hs5
  obtain ⟨ms0, _, ms2, _, _⟩ := mS_1 hso
  have hva := va_le (B := B) (l := l) (c := c)
  unfold pX5_number pX5_number_27 pX5_number_28
  intro v4 e4
  rw [hs.2.2.1]
  refine b_eq' (b := 2) (by omega) (by decide) (fun z => ?_) (fun z => m_no h12 (h0 (nuT_f.mpr (fun q => z (ms2.mpr q.1))) v4))
  have z2 := ms2.mp z
  rw [hs.2.2.2, if_pos z2] at e4
  subst e4
  refine m_in (by omega) hx (fun i hi e => t1 (m_go hB hb hc hs h12 (h1 (nuT_t.mpr ⟨z2, ?_⟩)))) (fun o => t0 (m_no h12 (h0 (nuT_f.mpr (fun q => o _ q.2 rfl)) _)))
  have := (nI_eq (by omega) (by omega)).mp e
  omega
theorem m_numW (h12 : τ 12 0 = 1) {lo x : Int32} {Q : Int32 → Mx → Prop} (h : ∀ v τ', τ' 12 0 = 1 → Fw τ τ' → Q v τ') : pX5_number τ lo x Q := by
  unfold pX5_number pX5_number_27 pX5_number_28
  intro v4 e4
  exact ⟨fun _ => m_wr h12 (h v4), fun _ => m_within (fun _ _ => t1 (m_wr h12 (h v4))) (fun _ => t0 (m_wr h12 (h v4)))⟩
theorem m_tak (hB : TB B l) (hb : Bm B l τ) (hc : c ≤ l) (hs : Mt B l c τ) (h12 : τ 12 0 = 0) {w : Nat} (hw : w < 11) {Q : Int32 → Mx → Prop} (h1 : isW B l c w = true → ∀ τ', Mt B l (enT B l c) τ' → τ' 12 0 = 0 → Fk τ τ' → Q 1 τ') (h0 : isW B l c w = false → Q 0 τ) : pX5_takesWord τ w Q := by
  unfold pX5_takesWord pX5_takesWord_19 pX5_takesWord_20 pX5_takesWord_30
  rw [h12]
  exact t0' (m_isWord hB hb hc hs hw (fun y => t1 (t1 (m_go hB hb hc hs h12 (fun τ' a b d => ⟨Or.inr rfl, h1 y τ' a b d⟩)))) (fun y => t0 (t0 ⟨Or.inl rfl, h0 y⟩)))
theorem m_takW (h12 : τ 12 0 = 1) {w : Nat} {Q : Int32 → Mx → Prop} (h : Q 0 τ) : pX5_takesWord τ w Q := by
  unfold pX5_takesWord pX5_takesWord_19 pX5_takesWord_20 pX5_takesWord_30
  rw [h12]
  exact t1' (t0 ⟨Or.inl rfl, h⟩)
end Words
