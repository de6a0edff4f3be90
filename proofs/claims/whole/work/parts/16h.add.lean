theorem nI_mod (n : Nat) : nI (n % 2 ^ 32) = nI n := by
  refine Int32.toBitVec_inj.mp (BitVec.eq_of_toNat_eq ?_)
  simp [nI]
theorem tv : ∀ t, t < 256 → ∀ p, p < 8 → ∀ v, v < 2 → (nI t &&& ((1 <<< (nI p &&& 31)) ^^^ (-1))) ||| (nI v <<< (nI p &&& 31)) = nI (t - t / 2 ^ p % 2 * 2 ^ p + v * 2 ^ p) := by decide +kernel
section Pure
variable {M : Nx} {σ μ : Mx}
theorem Rc_7o (hr : Rc M σ) {p v : Nat} (hp : M 8 0 ≤ p) : Rc (sn M 7 p v) σ := by
  obtain ⟨a1, a2, a3, a4, a5, a6, a7⟩ := hr
  refine ⟨?_, ?_, ?_, fun q hq => ?_, fun i hi => ?_, fun i hi => ?_, ?_⟩
  · rw [sn_ne (by decide)]; exact a1
  · rw [sn_ne (by decide)]; exact a2
  · rw [sn_ne (by decide)]; exact a3
  · rw [sn_ne (by decide)] at hq
    rw [sn_ne (by decide), sn_ne (by decide), sn_ne (by decide), sn_ne (by decide), sn_ne (by decide)]
    exact a4 q hq
  · rw [sn_ne (by decide)]; exact a5 i hi
  · rw [sn_ne (by decide)]; exact a6 i hi
  · rw [sn_ne (f := 7) (g := 8) (by decide), tb_cg (M' := sn M 7 p v) (M := M) _ (fun j hj => sn_off (by omega))]
    exact a7
theorem Rc_s8 (hr : Rc M σ) (h0 : σ 0 (M 8 0) = nI (M 0 (M 8 0))) (h1 : σ 1 (M 8 0) = nI (M 1 (M 8 0))) (h2 : σ 2 (M 8 0) = nI (M 2 (M 8 0))) (h3 : σ 3 (M 8 0) = nI (M 3 (M 8 0)) - 1) (h4 : σ 4 (M 8 0) = nI (M 4 (M 8 0))) (h7 : M 7 (M 8 0) = 0) : Rc (sn M 8 0 (M 8 0 + 1)) (st σ 8 0 (nI (M 8 0 + 1))) := by
  obtain ⟨a1, a2, a3, a4, a5, a6, a7⟩ := hr
  refine ⟨?_, ?_, ?_, fun q hq => ?_, fun i hi => ?_, fun i hi => ?_, ?_⟩
  · rw [st_at, sn_at]
  · rw [st_nf (by decide), sn_ne (by decide)]; exact a2
  · rw [st_nf (by decide), sn_ne (by decide)]; exact a3
  · rw [sn_at] at hq
    rw [st_nf (by decide), st_nf (by decide), st_nf (by decide), st_nf (by decide), st_nf (by decide), sn_ne (by decide), sn_ne (by decide), sn_ne (by decide), sn_ne (by decide), sn_ne (by decide)]
    by_cases e : q = M 8 0
    · subst e
      exact ⟨h0, h1, h2, h3, h4⟩
    · exact a4 q (by omega)
  · rw [st_nf (by decide), sn_ne (by decide)]; exact a5 i hi
  · rw [st_nf (by decide), sn_ne (by decide)]; exact a6 i hi
  · rw [st_nf (by decide), sn_at, tb_sn (by decide), tb, h7, Nat.zero_mul, Nat.add_zero]; exact a7
theorem Rm_s8 (hr : Rm M (μ 0)) (h0 : μ 0 (19 + 5 * M 8 0) = nI (M 0 (M 8 0))) (h1 : μ 0 (19 + 5 * M 8 0 + 1) = nI (M 1 (M 8 0))) (h2 : μ 0 (19 + 5 * M 8 0 + 2) = nI (M 2 (M 8 0))) (h3 : μ 0 (19 + 5 * M 8 0 + 3) = nI (M 3 (M 8 0)) - 1) (h7 : μ 0 (19 + 5 * M 8 0 + 4) = nI (M 7 (M 8 0))) (h4 : μ 0 (59 + M 8 0) = nI (M 4 (M 8 0))) : Rm (sn M 8 0 (M 8 0 + 1)) (st μ 0 1 (nI (M 8 0 + 1)) 0) := by
  obtain ⟨a1, a2, a3, a4, a5, a6, a7⟩ := hr
  refine ⟨?_, ?_, ?_, fun i hi => ?_, fun i hi => ?_, fun q hq => ?_, fun i hi => ?_⟩
  · rw [st_off (by omega), sn_ne (by decide)]; exact a1
  · rw [st_at, sn_at]
  · rw [st_off (by omega), sn_ne (by decide)]; exact a3
  · rw [st_off (by omega), sn_ne (by decide)]; exact a4 i hi
  · rw [st_off (by omega), sn_ne (by decide)]; exact a5 i hi
  · rw [sn_at] at hq
    rw [st_off (by omega), st_off (by omega), st_off (by omega), st_off (by omega), st_off (by omega), sn_ne (by decide), sn_ne (by decide), sn_ne (by decide), sn_ne (by decide), sn_ne (by decide)]
    by_cases e : q = M 8 0
    · subst e
      exact ⟨h0, h1, h2, h3, h7⟩
    · exact a6 q (by omega)
  · rw [sn_at] at hi
    rw [st_off (by omega), sn_ne (by decide)]
    by_cases e : i = M 8 0
    · subst e
      exact h4
    · exact a7 i (by omega)
/-- a new piece, all but the count of them -/
def apN (M : Nx) (k l r : Nat) : Nx := sn (sn (sn (sn (sn (sn M 0 (M 8 0) k) 1 (M 8 0) l) 2 (M 8 0) r) 3 (M 8 0) 0) 7 (M 8 0) 0) 4 (M 8 0) (M 8 0)
def adN (M : Nx) (k l r : Nat) : Nx := sn (apN M k l r) 8 0 (M 8 0 + 1)
theorem apN_8 {k l r : Nat} : apN M k l r 8 = M 8 := by
  unfold apN
  rw [sn_ne (by decide), sn_ne (by decide), sn_ne (by decide), sn_ne (by decide), sn_ne (by decide), sn_ne (by decide)]
theorem adN_n {k l r : Nat} : adN M k l r 8 0 = M 8 0 + 1 := sn_at
theorem Rc_ad (hr : Rc M σ) (hn : M 8 0 < 8) {k l r : Nat} : Rc (adN M k l r) (st (st (st (st (st (st σ 0 (M 8 0) (nI k)) 1 (M 8 0) (nI l)) 2 (M 8 0) (nI r)) 3 (M 8 0) (nI 0 - 1)) 4 (M 8 0) (nI (M 8 0))) 8 0 (nI (M 8 0 + 1))) := by
  have b3 := Rc_s3 (Rc_s2 (Rc_s1 (Rc_s0 hr (p := M 8 0) (v := k)) (p := M 8 0) (v := l)) (p := M 8 0) (v := r)) (p := M 8 0) (v := 0)
  have b7 := Rc_7o b3 (p := M 8 0) (v := 0) (by rw [sn_ne (by decide), sn_ne (by decide), sn_ne (by decide), sn_ne (by decide)]; exact Nat.le_refl _)
  have b4 := Rc_s4 b7 (p := M 8 0) (v := M 8 0)
  have e8 : apN M k l r 8 0 = M 8 0 := by rw [apN_8]
  have h := Rc_s8 (M := apN M k l r) b4
  rw [e8] at h
  refine h ?_ ?_ ?_ ?_ ?_ ?_
  · simp [apN, sn, st]
  · simp [apN, sn, st]
  · simp [apN, sn, st]
  · simp [apN, sn, st]
  · simp [apN, sn, st]
  · simp [apN, sn]
theorem Rm_ad (hr : Rm M (μ 0)) (hn : M 8 0 < 8) {k l r : Nat} : Rm (adN M k l r) (st (st (st (st (st (st (st μ 0 (19 + 5 * M 8 0) (nI k)) 0 (19 + 5 * M 8 0 + 1) (nI l)) 0 (19 + 5 * M 8 0 + 2) (nI r)) 0 (19 + 5 * M 8 0 + 3) (nI 0 - 1)) 0 (19 + 5 * M 8 0 + 4) (nI 0)) 0 (59 + M 8 0) (nI (M 8 0))) 0 1 (nI (M 8 0 + 1)) 0) := by
  have b0 := Rm_s0 hr (p := M 8 0) (v := k) hn
  have b1 := Rm_s1 b0 (p := M 8 0) (v := l) hn
  have b2 := Rm_s2 b1 (p := M 8 0) (v := r) hn
  have b3 := Rm_s3 b2 (p := M 8 0) (v := 0) hn
  have b7 := Rm_s7 b3 (p := M 8 0) (v := 0) hn
  have b4 := Rm_s4 b7 (by rw [sn_ne (by decide), sn_ne (by decide), sn_ne (by decide), sn_ne (by decide), sn_ne (by decide)]; omega) (p := M 8 0) (v := M 8 0) hn
  have e8 : apN M k l r 8 0 = M 8 0 := by rw [apN_8]
  have h := Rm_s8 (M := apN M k l r) b4
  rw [e8] at h
  have x0 : 19 + 5 * M 8 0 ≠ 59 + M 8 0 := by omega
  have x1 : 19 + 5 * M 8 0 + 1 ≠ 59 + M 8 0 := by omega
  have x2 : 19 + 5 * M 8 0 + 2 ≠ 59 + M 8 0 := by omega
  have x3 : 19 + 5 * M 8 0 + 3 ≠ 59 + M 8 0 := by omega
  have x4 : 19 + 5 * M 8 0 + 4 ≠ 59 + M 8 0 := by omega
  refine h ?_ ?_ ?_ ?_ ?_ ?_
  · rw [st_off x0, st_off (by omega), st_off (by omega), st_off (by omega), st_off (by omega), st_at]
    simp [apN, sn]
  · rw [st_off x1, st_off (by omega), st_off (by omega), st_off (by omega), st_at]
    simp [apN, sn]
  · rw [st_off x2, st_off (by omega), st_off (by omega), st_at]
    simp [apN, sn]
  · rw [st_off x3, st_off (by omega), st_at]
    simp [apN, sn]
  · rw [st_off x4, st_at]
    simp [apN, sn]
  · rw [st_at]
    simp [apN, sn]
theorem Wf_ad (hw : Wf M) (hn : M 8 0 < 8) {k l r : Nat} (hk : k < 7) (hl : l < 10) (hr : r < 10) : Wf (adN M k l r) := by
  obtain ⟨a1, a2, a3, a4, a5, a6, a7⟩ := hw
  refine ⟨?_, ?_, ?_, fun q hq => ?_, fun q hq => ?_, fun i hi => ?_, fun i hi => ?_⟩
  · rw [adN_n]; omega
  · simpa [adN, apN, sn] using a2
  · simpa [adN, apN, sn] using a3
  · rw [adN_n] at hq ⊢
    by_cases e : q = M 8 0
    · subst e
      simp [adN, apN, sn]
      omega
    · have h := a4 q (by omega)
      simp [adN, apN, sn, e]
      omega
  · rw [adN_n] at hq ⊢
    by_cases e : q = M 8 0
    · exact ⟨M 8 0, by omega, by simp [adN, apN, sn, e]⟩
    · obtain ⟨i, hi, he⟩ := a5 q (by omega)
      have e2 : i ≠ M 8 0 := by omega
      exact ⟨i, by omega, by simp [adN, apN, sn, e2]; exact he⟩
  · have h := a6 i hi
    simpa [adN, apN, sn] using h
  · have h := a7 i hi
    have e : adN M k l r 6 i = M 6 i := by simp [adN, apN, sn]
    rw [adN_n, e]
    omega
theorem c_add (hr : Rc M σ) (hn : M 8 0 < 8) {k l r : Nat} {Q : Int32 → Mx → Prop} (h : ∀ σ', Rc (adN M k l r) σ' → Q (nI (M 8 0)) σ') : pX1_addPiece σ (nI k) (nI l) (nI r) Q := by
  unfold pX1_addPiece
  intro v e
  rw [hr.1] at e
  subst e
  have hv : vp_in (nI (M 8 0)) 8 := vp_in_nI hn (by decide)
  rw [st_nf (g := 8) (f := 4) (by decide), st_nf (g := 8) (f := 3) (by decide), st_nf (g := 8) (f := 2) (by decide), st_nf (g := 8) (f := 1) (by decide), st_nf (g := 8) (f := 0) (by decide), hr.1, nI_1, nI_clamp (by omega)]
  exact ⟨hv, hv, hv, hv, hv, h _ (Rc_ad hr hn)⟩
theorem m_cut (hr : Rm M (μ 0)) (hn : M 8 0 < 8) {k l r : Nat} {Q : Int32 → Mx → Prop} (h : ∀ μ', Rm (adN M k l r) (μ' 0) → Fr0 μ μ' → Q (nI (M 8 0)) μ') : pX5_isCut μ (nI k) (nI l) (nI r) Q := by
  unfold pX5_isCut
  have hv : vp_in 1 67 := v_1 (by decide) (by decide)
  refine ⟨hv, ?_⟩
  intro v e
  rw [m_1, hr.2.1] at e
  subst e
  have hx : ∀ f, f < 5 → vp_in (nI (19 + 5 * M 8 0 + f)) 67 := fun f hf => vp_in_nI (by omega) (by decide)
  refine m_pieceAt (f := 0) ⟨hx 0 (by decide), m_pieceAt (f := 1) ⟨hx 1 (by decide), m_pieceAt (f := 2) ⟨hx 2 (by decide), m_pieceAt (f := 3) ⟨hx 3 (by decide), m_pieceAt (f := 4) ⟨hx 4 (by decide), m_in59 hn, hv, hv, ?_⟩⟩⟩⟩⟩
  rw [nI_clamp (by omega), nI_clamp (by omega), nI_clamp (by omega), nI_clamp (by omega), nI_clamp (by omega), m_at59 hn, m_1, st_off (by omega), st_off (by omega), st_off (by omega), st_off (by omega), st_off (by omega), st_off (by omega), hr.2.1, nI_1]
  refine h _ (Rm_ad hr hn) ?_
  exact Fr0.tr (Fr0.tr (Fr0.tr (Fr0.tr (Fr0.tr (Fr0.tr Fr0.st Fr0.st) Fr0.st) Fr0.st) Fr0.st) Fr0.st) Fr0.st
theorem tb_ge {p : Nat} : ∀ k, p < k → M 7 p * 2 ^ p ≤ tb M k
  | 0, h => absurd h (by omega)
  | k + 1, h => by
    rw [tb]
    by_cases e : p = k
    · subst e
      omega
    · have := tb_ge k (show p < k by omega)
      omega
theorem tb_set {p v : Nat} : ∀ k, p < k → tb (sn M 7 p v) k = tb M k - M 7 p * 2 ^ p + v * 2 ^ p
  | 0, h => absurd h (by omega)
  | k + 1, h => by
    rw [tb, tb]
    by_cases e : p = k
    · subst e
      rw [sn_at, tb_cg (M' := sn M 7 p v) (M := M) p (fun j hj => sn_off (by omega))]
      omega
    · have h1 := tb_ge (M := M) k (show p < k by omega)
      have h2 := tb_set (v := v) k (show p < k by omega)
      rw [sn_off (by omega), h2]
      omega
/-- what of a piece becomes v (of a want: the want and 1) -/
def beN (M : Nx) (p w v : Nat) : Nx := sn M (if w = 4 then 7 else w) p v
def bv (w v : Nat) : Int32 := if w = 3 then nI v - 1 else nI v
def bw (w v : Nat) : Prop := (w = 0 → v < 7) ∧ (w = 1 → v < 10) ∧ (w = 2 → v < 10) ∧ (w = 3 → v ≤ 8) ∧ (w = 4 → v ≤ 1)
theorem w5 {w : Nat} (h : w < 5) : w = 0 ∨ w = 1 ∨ w = 2 ∨ w = 3 ∨ w = 4 := by omega
theorem Wf_be (hw : Wf M) {p w v : Nat} (h5 : w < 5) (hb : bw w v) : Wf (beN M p w v) := by
  obtain ⟨b0, b1, b2, b3, b4⟩ := hb
  rcases w5 h5 with e | e | e | e | e <;> subst e
  · exact Wf_s0 hw (b0 rfl)
  · exact Wf_s1 hw (b1 rfl)
  · exact Wf_s2 hw (b2 rfl)
  · exact Wf_s3 hw (b3 rfl)
  · exact Wf_s7 hw (b4 rfl)
theorem Rm_be (hr : Rm M (μ 0)) {p w v : Nat} (h5 : w < 5) (hp : p < 8) : Rm (beN M p w v) (st μ 0 (19 + 5 * p + w) (bv w v) 0) := by
  rcases w5 h5 with e | e | e | e | e <;> subst e
  · exact Rm_s0 hr hp
  · exact Rm_s1 hr hp
  · exact Rm_s2 hr hp
  · exact Rm_s3 hr hp
  · exact Rm_s7 hr hp
theorem be_n {p w v : Nat} (h5 : w < 5) : beN M p w v 8 0 = M 8 0 := by
  unfold beN
  rw [sn_ne (by split <;> omega)]
theorem c_become (hw : Wf M) (hr : Rc M σ) {p w v : Nat} (hp : p < M 8 0) (h5 : w < 5) (hb : bw w v) {Q : Mx → Prop} (h : ∀ σ', Rc (beN M p w v) σ' → Q σ') : pX1_become σ (nI p) (nI w) (bv w v) Q := by
  have h8 := hw.1
  have ht := hw.t256
  have hv : vp_in (nI p) 8 := vp_in_nI (by omega) (by decide)
  unfold pX1_become pX1_become_90
  rw [nI_clamp (by omega)]
  have e : ∀ j : Nat, j < 7 → (nI w = nI j ↔ w = j) := fun j hj => nI_eq (by omega) (by omega)
  refine ⟨fun c => ⟨hv, ?_⟩, fun c => ⟨hv, ?_⟩, fun c => ⟨hv, ?_⟩, fun c => ⟨hv, ?_⟩, fun c0 c1 c2 c3 => ?_⟩
  · have z := (e 0 (by decide)).mp c
    subst z
    exact h _ (Rc_s0 hr)
  · have z := (e 1 (by decide)).mp c
    subst z
    exact h _ (Rc_s1 hr)
  · have z := (e 2 (by decide)).mp c
    subst z
    exact h _ (Rc_s2 hr)
  · have z := (e 3 (by decide)).mp c
    subst z
    exact h _ (Rc_s3 hr)
  · have z : w = 4 := by
      have d0 : w ≠ 0 := fun z => c0 ((e 0 (by decide)).mpr z)
      have d1 : w ≠ 1 := fun z => c1 ((e 1 (by decide)).mpr z)
      have d2 : w ≠ 2 := fun z => c2 ((e 2 (by decide)).mpr z)
      have d3 : w ≠ 3 := fun z => c3 ((e 3 (by decide)).mpr z)
      omega
    subst z
    have hv1 : v ≤ 1 := hb.2.2.2.2 rfl
    have hs := Rc_s7 hr (p := p) (v := v)
    rw [tb_set _ hp, ← tb_bit hw.tle _ (Nat.le_refl _) hp, ← tv _ ht p (by omega) v (by omega)] at hs
    rw [hr.2.2.2.2.2.2]
    exact h _ hs
def zN (M : Nx) : Nat := (M 10 0 * 1103515245 + 12345) % 2 ^ 32
theorem zN_lt : zN M < 2 ^ 32 := Nat.mod_lt _ (by decide)
theorem zN_I : nI (M 10 0) * 1103515245 + 12345 = nI (zN M) := by
  have e : nI (M 10 0) * 1103515245 + 12345 = nI (M 10 0 * 1103515245 + 12345) := by
    have e1 : nI (M 10 0) * 1103515245 = nI (M 10 0 * 1103515245) := pk_mul _ 1103515245
    rw [e1]
    exact nI_add _ 12345
  rw [e, zN, nI_mod]
def dwN (M : Nx) : Nat := zN M / 256
theorem z_sh : (((8 : Int32).toUInt32 &&& Int32.toUInt32 31).toBitVec % 32).toNat = 8 := by decide +kernel
theorem c_draw (hr : Rc M σ) {Q : Int32 → Mx → Prop} (h : ∀ σ', Rc (sn M 10 0 (zN M)) σ' → Q (nI (dwN M)) σ') : pX1_draw σ Q := by
  unfold pX1_draw
  rw [st_at, hr.2.2.1, zN_I, pk_ushrN zN_lt 8 8 z_sh]
  exact h _ (Rc_s10 hr)
theorem m_draw (hr : Rm M (μ 0)) {Q : Int32 → Mx → Prop} (h : ∀ μ', Rm (sn M 10 0 (zN M)) (μ' 0) → Fr0 μ μ' → Q (nI (dwN M)) μ') : pX5_drawn μ Q := by
  have hv : vp_in 2 67 := v_2 (by decide) (by decide)
  unfold pX5_drawn
  rw [m_2, st_at, hr.2.2.1, zN_I, pk_ushrN zN_lt 8 8 z_sh]
  exact ⟨hv, hv, hv, h _ (Rm_s10 hr) Fr0.st⟩
end Pure
