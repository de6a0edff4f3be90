/-! TEXTS -/
def rsA (P : Nx → Nat → Prop) (N : Nat → Prop) (x : Option (Nx × Nat) × Nat) : Prop := match x with
  | (some y, _) => P y.1 y.2
  | (none, c) => N c
def rdB (B : Nat → Nat) (l : Nat) (K : Nat → Nat → Nx → Option (Nx × Nat) × Nat) (k : Nat) (M : Nx) (x : Option Itm × Nat) : Option (Nx × Nat) × Nat := match x with
  | (none, c) => (none, c)
  | (some it, c) => if soT B l c = 0 then (some (apI M it, k + 1), c) else if soT B l c = 3 then K (enT B l c) (k + 1) (apI M it) else (none, c)
def rdA (B : Nat → Nat) (l : Nat) : Nat → Nat → Nat → Nx → Option (Nx × Nat) × Nat
  | 0, c, _, _ => (none, c)
  | f + 1, c, k, M => rdB B l (rdA B l f) k M (rdI B l (M 8 0) c)
def Sq (w : Nat → Int32) (M0 M : Nx) (k : Nat) : Prop := ∃ Ms : Nat → Nx, Ms 0 = M0 ∧ Ms k = M ∧ ∀ i, i < k → ∃ it, rowI w i it ∧ vaI (Ms i 8 0) it ∧ Ms (i + 1) = apI (Ms i) it
section Text
variable {B : Nat → Nat} {l c n k : Nat} {σ σ2 τ μ : Mx} {M M0 : Nx} {S S' : Nat → Mx}
theorem Sq_0 {w : Nat → Int32} : Sq w M0 M0 0 := ⟨fun _ => M0, rfl, rfl, fun i hi => absurd hi (by omega)⟩
theorem rowI_cg {w w' : Nat → Int32} {i : Nat} {it : Itm} (h : ∀ j, j < 5 * (i + 1) → w' j = w j) (hr : rowI w i it) : rowI w' i it := by
  unfold rowI
  rw [h _ (by omega), h _ (by omega), h _ (by omega), h _ (by omega), h _ (by omega)]
  exact hr
theorem Sq_s {w w' : Nat → Int32} (h : Sq w M0 M k) (hj : ∀ j, j < 5 * k → w' j = w j) {it : Itm} (hr : rowI w' k it) (hv : vaI (M 8 0) it) : Sq w' M0 (apI M it) (k + 1) := by
  obtain ⟨Ms, h0, hk, hs⟩ := h
  have hN : ∃ N : Nat → Nx, (∀ i, i ≤ k → N i = Ms i) ∧ N (k + 1) = apI M it := ⟨fun i => if i ≤ k then Ms i else apI M it, fun i hi => if_pos hi, if_neg (by omega)⟩
  obtain ⟨N, n1, n2⟩ := hN
  refine ⟨N, by rw [n1 0 (Nat.zero_le k)]; exact h0, n2, fun i hi => ?_⟩
  by_cases e : i = k
  · subst e
    refine ⟨it, hr, ?_, ?_⟩
    · rw [n1 i (Nat.le_refl i), hk]
      exact hv
    · rw [n2, n1 i (Nat.le_refl i), hk]
  · obtain ⟨it', q1, q2, q3⟩ := hs i (by omega)
    refine ⟨it', rowI_cg (fun j hj' => hj j (by omega)) q1, ?_, ?_⟩
    · rw [n1 i (by omega)]
      exact q2
    · rw [n1 (i + 1) (by omega), n1 i (by omega)]
      exact q3
theorem rdI_end (h : soT B l c = 0) : rdI B l n c = (none, c) := by
  have hf : ∀ w, ¬ isW B l c w = true := fun w y => by
    have := (isW_t.mp y).1
    omega
  unfold rdI
  rw [if_neg (fun y => hf _ (kd_y y)), if_neg (hf 7), if_neg (hf 8)]
theorem c_rdInto (hB : TB B l) {Q : Int32 → Mx → Mx → Prop} : ∀ f c k (M : Nx) (σ σ2 : Mx), l - c < f → c ≤ l → k ≤ c → Ct B l c σ → Wf M → Rc M σ2 → rsA (fun M' k' => Wf M' → k' < 200 → ∀ σ' σ2', Rc M' σ2' → Q (nI k') σ' σ2') (fun c' => c' ≤ l → ∀ σ' σ2', Q ((-1) - nI (bgT B l c')) σ' σ2') (rdA B l f c k M) → pX3_readInto_11 Q f (nI (k + 1)) σ σ2 := by
  have hl := hB.1
  intro f
  induction f with
  | zero =>
    intro c k M σ σ2 hf
    exact absurd hf (by omega)
  | succ f ih =>
    intro c k M σ σ2 hf hc hk hs hw hr h
    have hok := rdI_ok (B := B) (n := M 8 0) hc
    show pX3_readInto_11s (pX3_readInto_11 Q f) Q _ _ _
    unfold pX3_readInto_11s
    rw [hs.1.1, nI_1]
    refine b_lt (by omega) (by omega) (fun y => ?_) (fun y => c_rdItem hB hc hs hw hr ?_)
    · have ec : c = l := by omega
      have hb := bg_ge (B := B) (l := l) (c := c)
      rw [rdA, rdI_end (so_0.mpr (by omega))] at h
      have h' : c ≤ l → ∀ σ' σ2', Q ((-1) - nI (bgT B l c)) σ' σ2' := h
      rw [hs.2.2.1]
      exact h' hc _ _
    · rw [rdA] at h
      generalize rdI B l (M 8 0) c = x at h hok
      obtain ⟨o, c'⟩ := x
      cases o with
      | none =>
        have h' : c' ≤ l → ∀ σ' σ2', Q ((-1) - nI (bgT B l c')) σ' σ2' := h
        have hok' : c ≤ c' ∧ c' ≤ l := hok
        intro σ' σ2' hs'
        refine t0' ?_
        rw [hs'.2.2.1]
        exact h' hok'.2 _ _
      | some it =>
        have hok' : vaI (M 8 0) it ∧ bgT B l c < l ∧ c < c' ∧ c' ≤ l := hok
        have h' : rsA (fun M' k' => Wf M' → k' < 200 → ∀ σ' σ2', Rc M' σ2' → Q (nI k') σ' σ2') (fun c' => c' ≤ l → ∀ σ' σ2', Q ((-1) - nI (bgT B l c')) σ' σ2') (if soT B l c' = 0 then (some (apI M it, k + 1), c') else if soT B l c' = 3 then rdA B l f (enT B l c') (k + 1) (apI M it) else (none, c')) := h
        obtain ⟨o1, o2, o3, o4⟩ := hok'
        have hwA := Wf_ap hw o1
        intro σ' σ2' hs' hr'
        have hs5 := srC_lt (B := B) (l := l) (i := bgT B l c')
        have hso : soT B l c' < 5 := hs5
        refine t1' ?_
        rw [hs'.2.1, hs'.2.2.1]
        refine b_eq' (b := 0) (by omega) (by decide) (fun z => ?_) (fun z => b_eq (b := 3) (by omega) (by decide) (fun z2 => c_step hB o4 hs' (fun σ3 hs3 => ?_)) (fun z2 => ?_))
        · rw [if_pos z] at h'
          have h2 : Wf (apI M it) → k + 1 < 200 → ∀ σ' σ2', Rc (apI M it) σ2' → Q (nI (k + 1)) σ' σ2' := h'
          exact h2 hwA (by omega) _ _ hr'
        · rw [if_neg z, if_pos z2] at h'
          have hge := enX_gt (B := B) (so_n z)
          have hge2 := bg_ge (B := B) (l := l) (c := c')
          have e : enT B l c' = enX B l (bgT B l c') := rfl
          exact ih (enT B l c') (k + 1) (apI M it) σ3 σ2' (by omega) (en_le o4) (by omega) hs3 hwA hr' h'
        · rw [if_neg z, if_neg z2] at h'
          have h2 : c' ≤ l → ∀ σ' σ2', Q ((-1) - nI (bgT B l c')) σ' σ2' := h'
          exact h2 o4 _ _
/-! the reference -/
/-- what a text leaves as it was -/
def Fx (μ τ : Mx) : Prop := ∀ f, f ≠ 0 → f ≠ 7 → (f < 8 ∨ 16 < f) → τ f = μ f
theorem Sq_wf {w : Nat → Int32} {Ms : Nat → Nx} (hw : Wf (Ms 0)) (hs : ∀ i, i < k → ∃ it, rowI w i it ∧ vaI (Ms i 8 0) it ∧ Ms (i + 1) = apI (Ms i) it) : ∀ i, i ≤ k → Wf (Ms i)
  | 0, _ => hw
  | i + 1, hi => by
    obtain ⟨it, _, q2, q3⟩ := hs i (by omega)
    rw [q3]
    exact Wf_ap (Sq_wf hw hs i (by omega)) q2
theorem m_apply (hw : Wf M0) (hr : Rm M0 (τ 0)) (hS : Sq (τ 14) M0 M k) (hk : k ≤ 120) (h15 : τ 15 0 = nI k) {Q : Int32 → Mx → Prop} (h : ∀ τ', Fr0 τ τ' → Rm M (τ' 0) → Q (nI k) τ') : ∃ n, pX5_text_111 Q n 0 τ := by
  obtain ⟨Ms, h0, hk', hs⟩ := hS
  have hwf := Sq_wf (by rw [h0]; exact hw) hs
  have key : ∀ d i (τ' : Mx), i + d = k → Fr0 τ τ' → Rm (Ms i) (τ' 0) → pX5_text_111 Q (d + 1) (nI i) τ' := by
    intro d
    induction d with
    | zero =>
      intro i τ' hi hf hr'
      have ei : i = k := by omega
      subst ei
      show pX5_text_111s _ Q _ _
      unfold pX5_text_111s
      rw [hf 15 (by decide), h15]
      rw [hk'] at hr'
      exact b_le (by omega) (by omega) (fun _ => h τ' hf hr') (fun y => by omega)
    | succ d ih =>
      intro i τ' hi hf hr'
      show pX5_text_111s (pX5_text_111 Q (d + 1)) Q _ _
      unfold pX5_text_111s
      have e5 : (5 : Int32) * nI i = nI (5 * i) := pk_mul 5 i
      obtain ⟨it, q1, q2, q3⟩ := hs i (by omega)
      rw [hf 15 (by decide), h15, e5, nI_1]
      refine b_le (by omega) (by omega) (fun y => by omega) (fun _ => m_told1 (hwf i (by omega)) hr' (by rw [hf 14 (by decide)]; exact q1) q2 (by omega) (fun τ'' a b => ih (i + 1) τ'' (by omega) (Fr0.tr hf b) ?_))
      rw [q3]
      exact a
  exact ⟨_, key k 0 τ (by omega) Fr0.rfl (by rw [h0]; exact hr)⟩
theorem m_74w {b : Nat} (h12 : τ 12 0 = 1) (h8 : τ 8 0 = nI b) (hf : Fp μ τ) {Q : Int32 → Mx → Prop} (h : ∀ τ', Fx μ τ' → τ' 0 = μ 0 → τ' 7 0 = 0 → Q ((-1) - nI b) τ') : pX5_text_74 Q τ := by
  have G : ∀ y, pX5_text_87 Q y τ := by
    intro y
    unfold pX5_text_87
    refine m_wr h12 (fun τ' a d => ?_)
    have e12 : (st τ' 7 0 0) 12 0 = 1 := by rw [st_nf (by decide)]; exact a
    have e8 : (st τ' 7 0 0) 8 0 = nI b := by rw [st_nf (by decide), d 8 (by decide)]; exact h8
    rw [e12, e8]
    refine t1 (h _ (fun f f0 f7 ff => ?_) ?_ st_at)
    · rw [st_nf f7, d f (by omega)]
      exact hf f ff
    · rw [st_nf (by decide), d 0 (by decide)]
      exact hf 0 (by omega)
  exact ⟨fun _ => G 0, fun _ => G 1⟩
theorem m_74n (hs : Mt B l c τ) (hso : soT B l c ≠ 0) (h12 : τ 12 0 = 0) (hf : Fp μ τ) {Q : Int32 → Mx → Prop} (h : ∀ τ', Fx μ τ' → τ' 0 = μ 0 → τ' 7 0 = 0 → Q ((-1) - nI (bgT B l c)) τ') : pX5_text_74 Q τ := by
  have hs5 := srC_lt (B := B) (l := l) (i := bgT B l c)
  have hso5 : soT B l c < 5 := hs5
  obtain ⟨ms0, _, _, ms3, _⟩ := mS_1 hso5
  unfold pX5_text_74
  rw [hs.2.2.1]
  refine b_eq' (b := 0) (by omega) (by decide) (fun y => absurd (ms3.mp y) hso) (fun y => ?_)
  unfold pX5_text_87
  refine m_no h12 (fun τ' a d => ?_)
  have e12 : (st τ' 7 0 0) 12 0 = 1 := by rw [st_nf (by decide)]; exact a
  have e8 : (st τ' 7 0 0) 8 0 = nI (bgT B l c) := by rw [st_nf (by decide), d 8 (by decide)]; exact hs.1
  rw [e12, e8]
  refine t1 (h _ (fun f f0 f7 ff => ?_) ?_ st_at)
  · rw [st_nf f7, d f (by omega)]
    exact hf f ff
  · rw [st_nf (by decide), d 0 (by decide)]
    exact hf 0 (by omega)
theorem m_74y (hB : TB B l) (hb : Bm B l τ) (hc : c ≤ l) (hs : Mt B l c τ) (hso : soT B l c = 0) (h12 : τ 12 0 = 0) (hf : Fp μ τ) (hw : Wf M0) (hr : Rm M0 (μ 0)) (hS : Sq (τ 14) M0 M k) (hk : k ≤ 120) (h15 : τ 15 0 = nI k) {Q : Int32 → Mx → Prop} (h : ∀ τ', Fx μ τ' → Rm M (τ' 0) → τ' 7 0 = 0 → Q (nI k) τ') : pX5_text_74 Q τ := by
  have hs5 := srC_lt (B := B) (l := l) (i := bgT B l c)
  have hso5 : soT B l c < 5 := hs5
  obtain ⟨ms0, _, _, ms3, _⟩ := mS_1 hso5
  unfold pX5_text_74
  rw [hs.2.2.1]
  refine b_eq' (b := 0) (by omega) (by decide) (fun y => ?_) (fun y => absurd (ms3.mpr hso) y)
  unfold pX5_text_87
  refine m_go hB hb hc hs h12 (fun τ' a a12 d => ?_)
  have e12 : (st τ' 7 0 0) 12 0 = 0 := by rw [st_nf (by decide)]; exact a12
  rw [e12]
  refine t0 (m_apply (M0 := M0) (M := M) (k := k) hw ?_ ?_ hk ?_ (fun τ'' b hr' => h τ'' (fun f f0 f7 ff => ?_) hr' ?_))
  · rw [st_nf (by decide), d 0 (by omega), hf 0 (by omega)]
    exact hr
  · rw [st_nf (by decide), d 14 (by omega)]
    exact hS
  · rw [st_nf (by decide), d 15 (by omega)]
    exact h15
  · rw [b f f0, st_nf f7, d f (by omega)]
    exact hf f ff
  · rw [b 7 (by decide)]
    exact st_at
theorem srC_3 {i : Nat} (h : i < l) (h2 : srC B l i = 3 ∨ srC B l i = 4) : B i = 59 ↔ srC B l i = 3 := by
  have n1 : ¬ (97 ≤ B i ∧ B i ≤ 122) := fun y => by have := (srC_1 h).mpr y; omega
  have n2 : ¬ (48 ≤ B i ∧ B i ≤ 57) := fun y => by have := (srC_2 h).mpr y; omega
  unfold srC
  rw [if_neg (by omega), if_neg n1, if_neg n2]
  constructor
  · intro y
    rw [if_pos y]
  · intro y
    by_cases e : B i = 59
    · exact e
    · rw [if_neg e] at y
      exact absurd y (by decide)
theorem m_rdAll (hB : TB B l) (hw0 : Wf M0) (hr0 : Rm M0 (μ 0)) (hb0 : Bm B l μ) {Q : Int32 → Mx → Prop} : ∀ f c k (M : Nx) (τ : Mx), l - c < f → c ≤ l → k ≤ c → Mt B l c τ → τ 12 0 = 0 → Fp μ τ → τ 15 0 = nI k → τ 16 0 = nI (M 8 0) → Wf M → Sq (τ 14) M0 M k → rsA (fun M' k' => ∀ τ', Fx μ τ' → Rm M' (τ' 0) → τ' 7 0 = 0 → Q (nI k') τ') (fun c' => ∀ τ', Fx μ τ' → τ' 0 = μ 0 → τ' 7 0 = 0 → Q ((-1) - nI (bgT B l c')) τ') (rdA B l f c k M) → ∀ K : Mx → Prop, (∀ u, pX5_text_33 Q f u → K u) → pX5_readItem τ K := by
  have hl := hB.1
  intro f
  induction f with
  | zero =>
    intro c k M τ hf
    exact absurd hf (by omega)
  | succ f ih =>
    intro c k M τ hf hc hk hs h12 hfp h15 h16 hw hS h K hK
    have hbg := bg_ge (B := B) (l := l) (c := c)
    have bmτ : ∀ τ', Fp μ τ' → Bm B l τ' := by
      intro τ' q
      unfold Bm
      rw [q 7 (by omega), q 6 (by omega)]
      exact hb0
    refine m_rdItem hB (bmτ τ hfp) hc h15 h16 hw.1 (fun y => by omega) hs h12 ?_
    have hok := rdI_ok (B := B) (n := M 8 0) hc
    rw [rdA] at h
    generalize rdI B l (M 8 0) c = x at h hok
    obtain ⟨o, c'⟩ := x
    cases o with
    | none =>
      have h' : ∀ τ', Fx μ τ' → τ' 0 = μ 0 → τ' 7 0 = 0 → Q ((-1) - nI (bgT B l c')) τ' := h
      intro τ' a b d
      refine hK τ' ?_
      show pX5_text_33s (pX5_text_33 Q f) Q _
      unfold pX5_text_33s
      rw [a]
      exact t1' (m_74w a b (fun f hf => (d f hf).trans (hfp f hf)) h')
    | some it =>
      have hok' : vaI (M 8 0) it ∧ bgT B l c < l ∧ c < c' ∧ c' ≤ l := hok
      have h' : rsA (fun M' k' => ∀ τ', Fx μ τ' → Rm M' (τ' 0) → τ' 7 0 = 0 → Q (nI k') τ') (fun c' => ∀ τ', Fx μ τ' → τ' 0 = μ 0 → τ' 7 0 = 0 → Q ((-1) - nI (bgT B l c')) τ') (if soT B l c' = 0 then (some (apI M it, k + 1), c') else if soT B l c' = 3 then rdA B l f (enT B l c') (k + 1) (apI M it) else (none, c')) := h
      obtain ⟨o1, o2, o3, o4⟩ := hok'
      have hwA := Wf_ap hw o1
      intro τ' a a12 d dj drow d15 d16
      have hfp' : Fp μ τ' := fun f hf => (d f hf).trans (hfp f hf)
      have hS' : Sq (τ' 14) M0 (apI M it) (k + 1) := Sq_s hS dj drow o1
      have hs5 := srC_lt (B := B) (l := l) (i := bgT B l c')
      have hso5 : soT B l c' < 5 := hs5
      obtain ⟨ms0, _, _, ms3, ms4⟩ := mS_1 hso5
      refine hK τ' ?_
      show pX5_text_33s (pX5_text_33 Q f) Q _
      unfold pX5_text_33s
      rw [a12, a.2.2.1, a.1]
      have N74 : soT B l c' ≠ 0 → soT B l c' ≠ 3 → pX5_text_74 Q τ' := by
        intro z z2
        rw [if_neg z, if_neg z2] at h'
        have h2 : ∀ τ', Fx μ τ' → τ' 0 = μ 0 → τ' 7 0 = 0 → Q ((-1) - nI (bgT B l c')) τ' := h'
        exact m_74n a z a12 hfp' h2
      refine t0' (b_eq' (b := 3) (by omega) (by decide) (fun z => ?_) (fun z => ?_))
      · have z34 := ms4.mp z
        have hbl : bgT B l c' < l := so_n (by omega)
        have h256 := hB.2 _ hbl
        have e3 := srC_3 (B := B) hbl z34
        have bm' := bmτ τ' hfp'
        rw [nI_clamp (by omega), bm'.2 _ hbl]
        refine ⟨vp_in_nI (by omega) (by decide), b_eq' (b := 59) (by omega) (by decide) (fun y => ?_) (fun y => N74 (by omega) (fun q => y (e3.mpr q)))⟩
        have hso3 : soT B l c' = 3 := e3.mp y
        rw [if_neg (by omega), if_pos hso3] at h'
        have hge := enX_gt (B := B) hbl
        have hge2 := bg_ge (B := B) (l := l) (c := c')
        have e : enT B l c' = enX B l (bgT B l c') := rfl
        refine m_go hB bm' o4 a a12 (fun τ2 b b12 bf => ?_)
        refine ih (enT B l c') (k + 1) (apI M it) τ2 (by omega) (en_le o4) (by omega) b b12 (fun f hf => (bf f (by omega)).trans (hfp' f hf)) ?_ ?_ hwA ?_ h' _ (fun u q => q)
        · rw [bf 15 (by omega)]
          exact d15
        · rw [bf 16 (by omega), d16]
          congr 1
          obtain ⟨kd, i1, i2, i3, i4⟩ := it
          rcases o1 with ⟨g1, _⟩ | ⟨g1, _⟩ | ⟨g1, _⟩
          · have e1 : kd = 10 := g1
            subst e1
            rw [ap_10, sn_ne (by decide), if_neg (show ¬ (10 : Nat) < 7 by decide)]
            rfl
          · have e1 : kd = 11 := g1
            subst e1
            rw [ap_11, exN_ne (by decide), if_neg (show ¬ (11 : Nat) < 7 by decide)]
            rfl
          · rw [ap_k g1, sn_ne (by decide), sn_ne (by decide), adN_n, if_pos g1]
        · rw [bf 14 (by omega)]
          exact hS'
      · by_cases z0 : soT B l c' = 0
        · rw [if_pos z0] at h'
          have h2 : ∀ τ', Fx μ τ' → Rm (apI M it) (τ' 0) → τ' 7 0 = 0 → Q (nI (k + 1)) τ' := h'
          exact m_74y hB (bmτ τ' hfp') o4 a z0 a12 hfp' hw0 hr0 hS' (by omega) d15 h2
        · exact N74 z0 (fun q => z (ms4.mpr (Or.inl q)))
theorem Oth_t {μ' : Mx} (h : Oth S μ) (hs : ∀ k, k ≠ 0 → k ≠ 2 → k ≠ 4 → S' k = S k) (h4 : S' 4 1 0 = 0) (hf : Fx μ μ') (h7 : μ' 7 0 = 0) : Oth S' μ' := by
  have s1 := hs 1 (by decide) (by decide) (by decide)
  have s5 := hs 5 (by decide) (by decide) (by decide)
  have m1 := hf 1 (by decide) (by decide) (by omega)
  have m3 := hf 3 (by decide) (by decide) (by omega)
  have m4 := hf 4 (by decide) (by decide) (by omega)
  have m17 := hf 17 (by decide) (by decide) (by omega)
  have m18 := hf 18 (by decide) (by decide) (by omega)
  have m19 := hf 19 (by decide) (by decide) (by omega)
  obtain ⟨h1, h2, h3, hsh⟩ := h
  refine ⟨?_, ?_, ⟨0, by omega, h4, h7, fun j hj => absurd hj (by omega)⟩, fun j hj => ?_⟩
  · unfold Kp
    rw [s5, m3, s1, m1]
    exact h1
  · unfold Fi
    rw [s5, m4]
    exact h2
  · obtain ⟨w, z, h⟩ := hsh j hj
    refine ⟨w, z, ?_⟩
    unfold Sh1
    rw [hs (j + 6) (by omega) (by omega) (by omega), m17, m18, m19]
    exact h
theorem m_text (hB : TB B l) (hw : Wf M) (hr : Rm M (μ 0)) (hb : Bm B l μ) {Q : Int32 → Mx → Prop} (h : rsA (fun M' k' => ∀ τ', Fx μ τ' → Rm M' (τ' 0) → τ' 7 0 = 0 → Q (nI k') τ') (fun c' => ∀ τ', Fx μ τ' → τ' 0 = μ 0 → τ' 7 0 = 0 → Q ((-1) - nI (bgT B l c')) τ') (rdA B l (l + 1) 0 0 M)) : pX5_text μ Q := by
  unfold pX5_text
  refine ⟨v_1 (by decide) (by decide), ?_⟩
  have e1 : (st (st (st μ 9 0 0) 12 0 0) 15 0 0) 0 (1 : Int32).toNatClampNeg = nI (M 8 0) := by
    rw [m_1, st_nf (by decide), st_nf (by decide), st_nf (by decide)]
    exact hr.2.1
  rw [e1]
  refine m_token0 (c := 0) hB ?_ ?_ (Nat.zero_le l) (fun τ' hf hm => ?_)
  · unfold Bm
    rw [st_nf (by decide), st_nf (by decide), st_nf (by decide), st_nf (by decide), st_nf (by decide), st_nf (by decide), st_nf (by decide), st_nf (by decide)]
    exact hb
  · rw [st_nf (by decide), st_nf (by decide), st_nf (by decide)]
    exact st_at
  · refine m_rdAll (μ := μ) hB hw hr hb (l + 1) 0 0 M τ' (by omega) (Nat.zero_le l) (Nat.le_refl 0) hm ?_ (fun f hf2 => ?_) ?_ ?_ hw Sq_0 h _ (fun u q => ⟨_, q⟩)
    · rw [hf 12 (by omega), st_nf (by decide), st_nf (by decide)]
      exact st_at
    · rw [hf f (by omega), st_nf (by omega), st_nf (by omega), st_nf (by omega), st_nf (by omega)]
    · rw [hf 15 (by omega), st_nf (by decide)]
      exact st_at
    · rw [hf 16 (by omega)]
      exact st_at
theorem neg_b : ∀ b, b < 200 → (-1 : Int32) - nI b < 0 := by decide +kernel
theorem ok29 : OK_29 Inv := by
  intro S μ hI
  obtain ⟨M, hw, hc, hm, ho⟩ := hI
  obtain ⟨l, hl, h41, h7, hby⟩ := ho.2.2.1
  have hbe : ∀ j, j < l → (S 4 0 j).toNatClampNeg < 256 ∧ S 4 0 j = nI (S 4 0 j).toNatClampNeg ∧ μ 6 j = nI (S 4 0 j).toNatClampNeg := by
    intro j hj
    obtain ⟨b, b1, b2, b3⟩ := hby j hj
    have e : (S 4 0 j).toNatClampNeg = b := by rw [b2]; exact nI_clamp (by omega)
    rw [e]
    exact ⟨b1, b2, b3⟩
  have hB : TB (fun j => (S 4 0 j).toNatClampNeg) l := ⟨hl, fun j hj => (hbe j hj).1⟩
  have hBm : Bm (fun j => (S 4 0 j).toNatClampNeg) l μ := ⟨h7, fun j hj => (hbe j hj).2.2⟩
  have hBc : Bc (fun j => (S 4 0 j).toNatClampNeg) l (S 4) := ⟨h41, fun j hj => (hbe j hj).2.1⟩
  generalize (fun j => (S 4 0 j).toNatClampNeg) = B at hB hBm hBc
  unfold pX4_text pX1_takeFrom pX3_readInto pX4_text_46
  have e4 : (va_up S 2 (S 0)) 4 = S 4 := va_up_ne _ _ (by decide)
  have e2 : (va_up S 2 (S 0)) 2 = S 0 := va_up_self _ _ _
  dsimp only
  rw [e4, e2]
  have MT := fun Q => m_text (Q := Q) hB hw hm hBm
  refine c_step0 (c := 0) hB (hBc.st (by decide)) st_at (Nat.zero_le l) (fun σ1 hs1 => ⟨_, c_rdInto hB (l + 1) 0 0 M σ1 (S 0) (by omega) (Nat.zero_le l) (Nat.le_refl 0) hs1 hw hc ?_⟩)
  generalize rdA B l (l + 1) 0 0 M = x at MT
  obtain ⟨o, c'⟩ := x
  cases o with
  | none =>
    intro hc' u w
    have hbg := bg_le (B := B) hc'
    refine ⟨fun _ => MT _ (fun μ' hf h0 hz => ⟨rfl, M, hw, ?_, by rw [h0]; exact hm, Oth_t ho (fun k k0 k2 k4 => ?_) ?_ hf hz⟩), fun y => absurd (neg_b _ (by omega)) y⟩
    · rw [va_up_ne _ _ (by decide), va_up_ne _ _ (by decide), va_up_ne _ _ (by decide), va_up_ne _ _ (by decide)]
      exact hc
    · rw [va_up_ne _ _ k4, va_up_ne _ _ k2, va_up_ne _ _ k4, va_up_ne _ _ k2]
    · rw [va_up_self]
      exact st_at
  | some y =>
    obtain ⟨M', k'⟩ := y
    intro hw' hk' u w hr'
    refine ⟨fun y => absurd y (nI_pos (show k' < 2 ^ 31 by have : k' < 200 := hk'; omega)), fun _ => MT _ (fun μ' hf h0 hz => ⟨rfl, M', hw', ?_, h0, Oth_t ho (fun k k0 k2 k4 => ?_) ?_ hf hz⟩)⟩
    · rw [va_up_self, va_up_ne _ _ (by decide), va_up_self]
      exact hr'
    · rw [va_up_ne _ _ k0, va_up_ne _ _ k4, va_up_ne _ _ k2, va_up_ne _ _ k4, va_up_ne _ _ k2]
    · rw [va_up_ne _ _ (by decide), va_up_self]
      exact st_at
end Text
