/-! ITEMS: what (a KIND, 10 swap, 11 lay), and four numbers; a result is an ITEM and where it ended, or nothing and where the FAULT's TOKEN begins from -/
abbrev Itm : Type := Nat × Nat × Nat × Nat × Nat
def rsl (P : Itm → Nat → Prop) (N : Nat → Prop) (x : Option Itm × Nat) : Prop := match x with
  | (some it, c) => P it c
  | (none, c) => N c
def rdU (B : Nat → Nat) (l k a b w c : Nat) : Option Itm × Nat := if isW B l c 10 = true then (some (k, a, b, w, 1), enT B l c) else (some (k, a, b, w, 0), c)
def rdW (B : Nat → Nat) (l k a b c : Nat) : Option Itm × Nat := if isW B l c 9 = true then (if nuT B l (enT B l c) 8 = true then rdU B l k a b (vaT B l (enT B l c) + 1) (enT B l (enT B l c)) else (none, enT B l c)) else rdU B l k a b 0 c
def rdP (B : Nat → Nat) (l n k c : Nat) : Option Itm × Nat := if n < 8 then (if nuT B l (enT B l c) 10 = true then (if nuT B l (enT B l (enT B l c)) 10 = true then rdW B l k (vaT B l (enT B l c)) (vaT B l (enT B l (enT B l c))) (enT B l (enT B l (enT B l c))) else (none, enT B l (enT B l c))) else (none, enT B l c)) else (none, c)
def rdS (B : Nat → Nat) (l c : Nat) : Option Itm × Nat := if nuT B l (enT B l c) 6 = true then (if nuT B l (enT B l (enT B l c)) 8 = true then (if nuT B l (enT B l (enT B l (enT B l c))) 8 = true then (some (10, vaT B l (enT B l c), vaT B l (enT B l (enT B l c)), vaT B l (enT B l (enT B l (enT B l c))), 0), enT B l (enT B l (enT B l (enT B l c)))) else (none, enT B l (enT B l (enT B l c)))) else (none, enT B l (enT B l c))) else (none, enT B l c)
def rdL (B : Nat → Nat) (l n c : Nat) : Option Itm × Nat := if nuT B l (enT B l c) n = true then (if nuT B l (enT B l (enT B l c)) n = true then (some (11, vaT B l (enT B l c), vaT B l (enT B l (enT B l c)), 0, 0), enT B l (enT B l (enT B l c))) else (none, enT B l (enT B l c))) else (none, enT B l c)
def kdT (B : Nat → Nat) (l c : Nat) : Nat := rn (fun k => !isW B l c k) 7 0
def rdI (B : Nat → Nat) (l n c : Nat) : Option Itm × Nat := if kdT B l c < 7 then rdP B l n (kdT B l c) c else if isW B l c 7 = true then rdS B l c else if isW B l c 8 = true then rdL B l n c else (none, c)
def apI (M : Nx) (it : Itm) : Nx := if it.1 = 10 then sn M 5 it.2.1 (10 * it.2.2.1 + it.2.2.2.1) else if it.1 = 11 then exN M it.2.1 it.2.2.1 else sn (sn (adN M it.1 it.2.1 it.2.2.1) 3 (M 8 0) it.2.2.2.1) 7 (M 8 0) it.2.2.2.2
def vaI (n : Nat) (it : Itm) : Prop := (it.1 = 10 ∧ it.2.1 < 6 ∧ it.2.2.1 < 8 ∧ it.2.2.2.1 < 8) ∨ (it.1 = 11 ∧ it.2.1 < n ∧ it.2.2.1 < n) ∨ (it.1 < 7 ∧ it.2.1 < 10 ∧ it.2.2.1 < 10 ∧ it.2.2.2.1 ≤ 8 ∧ it.2.2.2.2 ≤ 1 ∧ n < 8)
section Items
variable {B : Nat → Nat} {l c n : Nat} {σ σ2 τ : Mx} {M : Nx}
theorem kd_y (h : kdT B l c < 7) : isW B l c (kdT B l c) = true := by
  have := rn_out (P := fun k => !isW B l c k) 7 0 (by unfold kdT at h; omega)
  unfold kdT
  generalize rn (fun k => !isW B l c k) 7 0 = z at this
  cases e : isW B l c z with
  | true => rfl
  | false =>
    have t : (!isW B l c z) = false := this
    rw [e] at t
    exact absurd t (by decide)
theorem kd_n {j : Nat} (h : j < kdT B l c) : isW B l c j = false := by
  have := rn_in (P := fun k => !isW B l c k) 7 0 j (Nat.zero_le j) h
  have t : (!isW B l c j) = true := this
  cases e : isW B l c j with
  | true =>
    rw [e] at t
    exact absurd t (by decide)
  | false => rfl
theorem kd_le : kdT B l c ≤ 7 := by
  have := rn_le (P := fun k => !isW B l c k) 7 0
  unfold kdT
  omega
theorem fst_i : ∀ w, w < 7 → ∀ v, v < 7 → sbyt w 0 = sbyt v 0 → w = v := by decide +kernel
theorem isW_u {w v : Nat} (hw : w < 7) (hv : v < 7) (h1 : isW B l c w = true) (h2 : isW B l c v = true) : w = v := by
  have a := (isW_t.mp h1).2.2 0 (sl_b w (by omega)).1
  have b := (isW_t.mp h2).2.2 0 (sl_b v (by omega)).1
  rw [a] at b
  exact fst_i w hw v hv b
theorem en_ge : c ≤ enT B l c := Nat.le_trans bg_ge enX_ge
theorem isW_lt {w : Nat} (h : isW B l c w = true) : bgT B l c < l ∧ c < enT B l c := by
  have h1 := (isW_t.mp h).1
  have h2 : bgT B l c < l := so_n (by omega)
  exact ⟨h2, Nat.lt_of_le_of_lt bg_ge (enX_gt h2)⟩
theorem rdU_ok (hc : c ≤ l) {k a b w : Nat} (hk : k < 7) (ha : a < 10) (hb : b < 10) (hw : w ≤ 8) (hn : n < 8) : rsl (fun it c' => vaI n it ∧ c ≤ c' ∧ c' ≤ l) (fun c' => c ≤ c' ∧ c' ≤ l) (rdU B l k a b w c) := by
  have h1 := en_le (B := B) hc
  have h2 := en_ge (B := B) (l := l) (c := c)
  unfold rdU
  split
  · exact ⟨Or.inr (Or.inr ⟨hk, ha, hb, hw, Nat.le_refl 1, hn⟩), h2, h1⟩
  · exact ⟨Or.inr (Or.inr ⟨hk, ha, hb, hw, Nat.zero_le 1, hn⟩), Nat.le_refl c, hc⟩
theorem rsl_mono {P P' : Itm → Nat → Prop} {N N' : Nat → Prop} {x : Option Itm × Nat} (h : rsl P N x) (h1 : ∀ it c, P it c → P' it c) (h2 : ∀ c, N c → N' c) : rsl P' N' x := by
  obtain ⟨a, b⟩ := x
  cases a with
  | none => exact h2 _ h
  | some it => exact h1 _ _ h
theorem rsl_and {P P' : Itm → Nat → Prop} {N N' : Nat → Prop} {x : Option Itm × Nat} (h : rsl P N x) (h' : rsl P' N' x) : rsl (fun it c => P it c ∧ P' it c) (fun c => N c ∧ N' c) x := by
  obtain ⟨a, b⟩ := x
  cases a with
  | none => exact ⟨h, h'⟩
  | some it => exact ⟨h, h'⟩
theorem rdW_ok (hc : c ≤ l) {k a b : Nat} (hk : k < 7) (ha : a < 10) (hb : b < 10) (hn : n < 8) : rsl (fun it c' => vaI n it ∧ c ≤ c' ∧ c' ≤ l) (fun c' => c ≤ c' ∧ c' ≤ l) (rdW B l k a b c) := by
  have h1 := en_le (B := B) hc
  have h2 := en_ge (B := B) (l := l) (c := c)
  have h3 := en_le (B := B) h1
  have h4 := en_ge (B := B) (l := l) (c := enT B l c)
  unfold rdW
  split
  · split
    · rename_i y
      have := (nuT_t.mp y).2
      exact rsl_mono (rdU_ok h3 hk ha hb (by omega) hn) (fun it c' q => ⟨q.1, by omega, q.2.2⟩) (fun c' q => ⟨by omega, q.2⟩)
    · exact ⟨h2, h1⟩
  · exact rdU_ok hc hk ha hb (by omega) hn
theorem rdI_ok (hc : c ≤ l) : rsl (fun it c' => vaI n it ∧ bgT B l c < l ∧ c < c' ∧ c' ≤ l) (fun c' => c ≤ c' ∧ c' ≤ l) (rdI B l n c) := by
  have h1 := en_le (B := B) hc
  have h2 := en_ge (B := B) (l := l) (c := c)
  have h3 := en_le (B := B) h1
  have h4 := en_ge (B := B) (l := l) (c := enT B l c)
  have h5 := en_le (B := B) h3
  have h6 := en_ge (B := B) (l := l) (c := enT B l (enT B l c))
  have h7 := en_le (B := B) h5
  have h8 := en_ge (B := B) (l := l) (c := enT B l (enT B l (enT B l c)))
  unfold rdI
  by_cases z : kdT B l c < 7
  · rw [if_pos z]
    have hlt := isW_lt (kd_y z)
    unfold rdP
    split
    · rename_i hn
      split
      · rename_i y1
        split
        · rename_i y2
          exact rsl_mono (rdW_ok h5 z (nuT_t.mp y1).2 (nuT_t.mp y2).2 hn) (fun it c' q => ⟨q.1, hlt.1, by omega, q.2.2⟩) (fun c' q => ⟨by omega, q.2⟩)
        · exact ⟨by omega, h3⟩
      · exact ⟨h2, h1⟩
    · exact ⟨Nat.le_refl c, hc⟩
  · rw [if_neg z]
    by_cases z2 : isW B l c 7 = true
    · rw [if_pos z2]
      have hlt := isW_lt z2
      unfold rdS
      split
      · rename_i y1
        split
        · rename_i y2
          split
          · rename_i y3
            exact ⟨Or.inl ⟨rfl, (nuT_t.mp y1).2, (nuT_t.mp y2).2, (nuT_t.mp y3).2⟩, hlt.1, by omega, h7⟩
          · exact ⟨by omega, h5⟩
        · exact ⟨by omega, h3⟩
      · exact ⟨h2, h1⟩
    · rw [if_neg z2]
      by_cases z3 : isW B l c 8 = true
      · rw [if_pos z3]
        have hlt := isW_lt z3
        unfold rdL
        split
        · rename_i y1
          split
          · rename_i y2
            exact ⟨Or.inr (Or.inl ⟨rfl, (nuT_t.mp y1).2, (nuT_t.mp y2).2⟩), hlt.1, by omega, h5⟩
          · exact ⟨by omega, h3⟩
        · exact ⟨h2, h1⟩
      · rw [if_neg z3]
        exact ⟨Nat.le_refl c, hc⟩
theorem ap_10 {a b d e : Nat} : apI M (10, a, b, d, e) = sn M 5 a (10 * b + d) := if_pos rfl
theorem ap_11 {a b d e : Nat} : apI M (11, a, b, d, e) = exN M a b := by
  unfold apI
  rw [if_neg (show ¬ (11 : Nat) = 10 by decide), if_pos rfl]
theorem ap_k {k a b d e : Nat} (hk : k < 7) : apI M (k, a, b, d, e) = sn (sn (adN M k a b) 3 (M 8 0) d) 7 (M 8 0) e := by
  unfold apI
  rw [if_neg (show ¬ k = 10 by omega), if_neg (show ¬ k = 11 by omega)]
theorem Wf_ap (hw : Wf M) {it : Itm} (h : vaI (M 8 0) it) : Wf (apI M it) := by
  obtain ⟨k, a, b, d, e⟩ := it
  rcases h with ⟨h1, h2, h3, h4⟩ | ⟨h1, h2, h3⟩ | ⟨h1, h2, h3, h4, h5, h6⟩
  · have e1 : k = 10 := h1
    subst e1
    rw [ap_10]
    exact Wf_s5 hw ⟨b, d, h3, h4, rfl⟩
  · have e1 : k = 11 := h1
    subst e1
    rw [ap_11]
    exact Wf_ex hw h2 h3
  · rw [ap_k h1]
    exact Wf_s7 (Wf_s3 (Wf_ad hw h6 h1 h2 h3) h4) h5
/-! the class -/
theorem ad_3 {k a b : Nat} : sn (adN M k a b) 3 (M 8 0) 0 = adN M k a b := by
  funext g j
  unfold sn
  by_cases y : g = 3 ∧ j = M 8 0
  · rw [if_pos y, y.1, y.2]
    unfold adN apN
    rw [sn_ne (by decide), sn_ne (by decide), sn_ne (by decide), sn_at]
  · rw [if_neg y]
theorem ad_7 {k a b d : Nat} : sn (adN M k a b) 3 (M 8 0) d 7 (M 8 0) = 0 := by
  rw [sn_ne (by decide)]
  unfold adN apN
  rw [sn_ne (by decide), sn_ne (by decide), sn_at]
theorem ad7_id {k a b d : Nat} : sn (sn (adN M k a b) 3 (M 8 0) d) 7 (M 8 0) 0 = sn (adN M k a b) 3 (M 8 0) d := by
  have e := ad_7 (M := M) (k := k) (a := a) (b := b) (d := d)
  generalize sn (adN M k a b) 3 (M 8 0) d = X at e
  funext g j
  unfold sn
  by_cases y : g = 7 ∧ j = M 8 0
  · rw [if_pos y, y.1, y.2, e]
  · rw [if_neg y]
theorem c_92 (hB : TB B l) (hc : c ≤ l) (hs : Ct B l c σ) (hw : Wf M) (hn : M 8 0 < 8) {k a b w : Nat} (hk : k < 7) (ha : a < 10) (hb : b < 10) (hw8 : w ≤ 8) (hr : Rc (sn (adN M k a b) 3 (M 8 0) w) σ2) {Q : Int32 → Mx → Mx → Prop} (h : rsl (fun it c' => ∀ σ' σ2', Ct B l c' σ' → Rc (apI M it) σ2' → Q 1 σ' σ2') (fun c' => ∀ σ' σ2', Ct B l c' σ' → Q 0 σ' σ2') (rdU B l k a b w c)) : pX3_readPiece_92 Q (nI (M 8 0)) σ σ2 := by
  unfold rdU at h
  unfold pX3_readPiece_92 pX3_readPiece_118
  refine c_isWord hB hc hs (by decide) (fun y => t1 (c_step hB hc hs (fun σ' hs' => ?_))) (fun y => t0 ?_)
  · rw [if_pos y] at h
    have h' : ∀ σ' σ2', Ct B l (enT B l c) σ' → Rc (apI M (k, a, b, w, 1)) σ2' → Q 1 σ' σ2' := h
    refine h' _ _ hs' ?_
    rw [ap_k hk]
    have hW : Wf (sn (adN M k a b) 3 (M 8 0) w) := Wf_s3 (Wf_ad hw hn hk ha hb) hw8
    have e8 : sn (adN M k a b) 3 (M 8 0) w 8 0 = M 8 0 + 1 := by
      rw [sn_ne (by decide)]
      exact adN_n
    have e7 := ad_7 (M := M) (k := k) (a := a) (b := b) (d := w)
    have ht := hW.t256
    have htb := tb_bit hW.tle (p := M 8 0) (sn (adN M k a b) 3 (M 8 0) w 8 0) (Nat.le_refl _) (by omega)
    have hrs := Rc_s7 hr (p := M 8 0) (v := 1)
    rw [tb_set _ (by rw [e8]; omega), e7, Nat.zero_mul, Nat.sub_zero, Nat.one_mul] at hrs
    rw [e7] at htb
    rw [hr.2.2.2.2.2.2, bb1 _ ht _ (by omega) htb]
    exact hrs
  · rw [if_neg (by rw [y]; decide)] at h
    have h' : ∀ σ' σ2', Ct B l c σ' → Rc (apI M (k, a, b, w, 0)) σ2' → Q 1 σ' σ2' := h
    refine h' _ _ hs ?_
    rw [ap_k hk, ad7_id]
    exact hr
theorem c_36 (hB : TB B l) (hc : c ≤ l) (hs : Ct B l c σ) (hw : Wf M) (hn : M 8 0 < 8) {k a b : Nat} (hk : k < 7) (ha : a < 10) (hb : b < 10) (hr : Rc M σ2) {Q : Int32 → Mx → Mx → Prop} (h : rsl (fun it c' => ∀ σ' σ2', Ct B l c' σ' → Rc (apI M it) σ2' → Q 1 σ' σ2') (fun c' => ∀ σ' σ2', Ct B l c' σ' → Q 0 σ' σ2') (rdW B l k a b c)) : pX3_readPiece_36 Q (nI k) (nI a) (nI b) σ σ2 := by
  have he := en_le (B := B) hc
  unfold rdW at h
  unfold pX3_readPiece_36
  refine ⟨fun _ => c_add hr hn (fun σ2' hr' => c_isWord hB hc hs (by decide) (fun y => t1 (c_step hB hc hs (fun σ' hs' => ?_))) (fun y => t0 ?_)), fun y => absurd (nI_pos' (by omega)) y⟩
  · rw [if_pos y] at h
    refine c_number (n := 8) hB he hs' (by decide) (by decide) (fun z σ'' hs'' => ⟨fun _ => ⟨vp_in_nI (by omega) (by decide), ?_⟩, fun z2 => absurd (nI_pos' (by have := (nuT_t.mp z).2; omega)) z2⟩) (fun z => ⟨fun z2 => absurd z2 (by decide), fun _ => ?_⟩)
    · rw [if_pos z] at h
      have hv := (nuT_t.mp z).2
      refine c_92 hB (en_le he) hs'' hw hn hk ha hb (w := vaT B l (enT B l c) + 1) (by omega) ?_ h
      have hq := Rc_s3 hr' (p := M 8 0) (v := vaT B l (enT B l c) + 1)
      rw [nI_pred] at hq
      rw [nI_clamp (by omega)]
      exact hq
    · rw [if_neg (by rw [z]; decide)] at h
      have h' : ∀ σ' σ2', Ct B l (enT B l c) σ' → Q 0 σ' σ2' := h
      exact h' _ _ hs'
  · rw [if_neg (by rw [y]; decide)] at h
    refine c_92 hB hc hs hw hn hk ha hb (w := 0) (by omega) ?_ h
    rw [ad_3]
    exact hr'
theorem c_rdPiece (hB : TB B l) (hc : c ≤ l) (hs : Ct B l c σ) (hw : Wf M) {k : Nat} (hk : k < 7) (hr : Rc M σ2) {Q : Int32 → Mx → Mx → Prop} (h : rsl (fun it c' => ∀ σ' σ2', Ct B l c' σ' → Rc (apI M it) σ2' → Q 1 σ' σ2') (fun c' => ∀ σ' σ2', Ct B l c' σ' → Q 0 σ' σ2') (rdP B l (M 8 0) k c)) : pX3_readPiece σ σ2 (nI k) Q := by
  have h8 := hw.1
  have he := en_le (B := B) hc
  have he2 := en_le (B := B) he
  unfold rdP at h
  unfold pX3_readPiece
  rw [hr.1]
  refine b_lt (b := 8) (by omega) (by decide) (fun hn => c_step hB hc hs (fun σ' hs' => c_number (n := 10) hB he hs' (by decide) (by decide) (fun z σ'' hs'' => ⟨fun _ => c_number (n := 10) hB he2 hs'' (by decide) (by decide) (fun z2 σ3 hs3 => ?_) (fun z2 => ?_), fun y => absurd (nI_pos' (by have := (nuT_t.mp z).2; omega)) y⟩) (fun z => ⟨fun y => absurd y (by decide), fun _ => ?_⟩))) (fun hn => ?_)
  · rw [if_pos hn, if_pos z, if_pos z2] at h
    exact c_36 hB (en_le he2) hs3 hw hn hk (nuT_t.mp z).2 (nuT_t.mp z2).2 hr h
  · rw [if_pos hn, if_pos z, if_neg (by rw [z2]; decide)] at h
    have h' : ∀ σ' σ2', Ct B l (enT B l (enT B l c)) σ' → Q 0 σ' σ2' := h
    exact ⟨fun y => absurd y (by decide), fun _ => h' _ _ hs''⟩
  · rw [if_pos hn, if_neg (by rw [z]; decide)] at h
    have h' : ∀ σ' σ2', Ct B l (enT B l c) σ' → Q 0 σ' σ2' := h
    exact ⟨fun y => absurd y (by decide), fun _ => h' _ _ hs'⟩
  · rw [if_neg (by omega)] at h
    have h' : ∀ σ' σ2', Ct B l c σ' → Q 0 σ' σ2' := h
    exact h' _ _ hs
theorem c_rdSwap (hB : TB B l) (hc : c ≤ l) (hs : Ct B l c σ) (hr : Rc M σ2) {Q : Int32 → Mx → Mx → Prop} (h : rsl (fun it c' => ∀ σ' σ2', Ct B l c' σ' → Rc (apI M it) σ2' → Q 1 σ' σ2') (fun c' => ∀ σ' σ2', Ct B l c' σ' → Q 0 σ' σ2') (rdS B l c)) : pX3_readSwap σ σ2 Q := by
  have he := en_le (B := B) hc
  have he2 := en_le (B := B) he
  have he3 := en_le (B := B) he2
  unfold rdS at h
  unfold pX3_readSwap pX3_readSwap_24 pX3_readSwap_39
  refine c_step hB hc hs (fun σ1 hs1 => c_number (n := 6) hB he hs1 (by decide) (by decide) (fun z σ3 hs3 => ?_) (fun z => ?_))
  · rw [if_pos z] at h
    have hv := (nuT_t.mp z).2
    refine ⟨fun _ => c_number (n := 8) hB he2 hs3 (by decide) (by decide) (fun z2 σ4 hs4 => ?_) (fun z2 => ?_), fun y => absurd (nI_pos' (by omega)) y⟩
    · rw [if_pos z2] at h
      have hv2 := (nuT_t.mp z2).2
      refine ⟨fun _ => c_number (n := 8) hB he3 hs4 (by decide) (by decide) (fun z3 σ5 hs5 => ?_) (fun z3 => ?_), fun y => absurd (nI_pos' (by omega)) y⟩
      · rw [if_pos z3] at h
        have hv3 := (nuT_t.mp z3).2
        have h' : ∀ σ' σ2', Ct B l (enT B l (enT B l (enT B l (enT B l c)))) σ' → Rc (apI M (10, vaT B l (enT B l c), vaT B l (enT B l (enT B l c)), vaT B l (enT B l (enT B l (enT B l c))), 0)) σ2' → Q 1 σ' σ2' := h
        refine ⟨fun _ => ⟨vp_in_nI (by omega) (by decide), h' _ _ hs5 ?_⟩, fun y => absurd (nI_pos' (by omega)) y⟩
        rw [ap_10, ten, nI_clamp (by omega)]
        exact Rc_s5 hr
      · rw [if_neg (by rw [z3]; decide)] at h
        have h' : ∀ σ' σ2', Ct B l (enT B l (enT B l (enT B l c))) σ' → Q 0 σ' σ2' := h
        exact ⟨fun y => absurd y (by decide), fun _ => h' _ _ hs4⟩
    · rw [if_neg (by rw [z2]; decide)] at h
      have h' : ∀ σ' σ2', Ct B l (enT B l (enT B l c)) σ' → Q 0 σ' σ2' := h
      exact ⟨fun y => absurd y (by decide), fun _ => ⟨fun y => absurd y (by decide), fun _ => h' _ _ hs3⟩⟩
  · rw [if_neg (by rw [z]; decide)] at h
    have h' : ∀ σ' σ2', Ct B l (enT B l c) σ' → Q 0 σ' σ2' := h
    exact ⟨fun y => absurd y (by decide), fun _ => ⟨fun y => absurd y (by decide), fun _ => ⟨fun y => absurd y (by decide), fun _ => h' _ _ hs1⟩⟩⟩
theorem c_rdLay (hB : TB B l) (hc : c ≤ l) (hs : Ct B l c σ) (hw : Wf M) (hr : Rc M σ2) {Q : Int32 → Mx → Mx → Prop} (h : rsl (fun it c' => ∀ σ' σ2', Ct B l c' σ' → Rc (apI M it) σ2' → Q 1 σ' σ2') (fun c' => ∀ σ' σ2', Ct B l c' σ' → Q 0 σ' σ2') (rdL B l (M 8 0) c)) : pX3_readLay σ σ2 Q := by
  have h8 := hw.1
  have he := en_le (B := B) hc
  have he2 := en_le (B := B) he
  unfold rdL at h
  unfold pX3_readLay pX3_readLay_33
  rw [hr.1]
  refine c_step hB hc hs (fun σ1 hs1 => c_number (n := M 8 0) hB he hs1 (by omega) rfl (fun z σ3 hs3 => ?_) (fun z => ?_))
  · rw [if_pos z] at h
    have hv := (nuT_t.mp z).2
    refine ⟨fun _ => c_number (n := M 8 0) hB he2 hs3 (by omega) rfl (fun z2 σ4 hs4 => ?_) (fun z2 => ?_), fun y => absurd (nI_pos' (by omega)) y⟩
    · rw [if_pos z2] at h
      have hv2 := (nuT_t.mp z2).2
      have h' : ∀ σ' σ2', Ct B l (enT B l (enT B l (enT B l c))) σ' → Rc (apI M (11, vaT B l (enT B l c), vaT B l (enT B l (enT B l c)), 0, 0)) σ2' → Q 1 σ' σ2' := h
      refine ⟨fun _ => c_ex hw hr rfl rfl (by omega) (by omega) (fun σ' hr' => h' _ _ hs4 ?_), fun y => absurd (nI_pos' (by omega)) y⟩
      rw [exP_y hv hv2] at hr'
      rw [ap_11]
      exact hr'
    · rw [if_neg (by rw [z2]; decide)] at h
      have h' : ∀ σ' σ2', Ct B l (enT B l (enT B l c)) σ' → Q 0 σ' σ2' := h
      exact ⟨fun y => absurd y (by decide), fun _ => h' _ _ hs3⟩
  · rw [if_neg (by rw [z]; decide)] at h
    have h' : ∀ σ' σ2', Ct B l (enT B l c) σ' → Q 0 σ' σ2' := h
    exact ⟨fun y => absurd y (by decide), fun _ => ⟨fun y => absurd y (by decide), fun _ => h' _ _ hs1⟩⟩
theorem nmOf {k : Nat} (hk : k < 7) {Q : Nat → Prop} (h : Q k) : pX3_nameOf (nI k) Q := by
  unfold pX3_nameOf
  have e : ∀ j : Nat, j < 7 → (nI k = nI j ↔ k = j) := fun j hj => nI_eq (by omega) (by omega)
  have q : ∀ j : Nat, j < 7 → nI k = nI j → Q j := fun j hj y => by rw [← (e j hj).mp y]; exact h
  refine ⟨q 1 (by decide), q 2 (by decide), q 3 (by decide), q 4 (by decide), q 5 (by decide), q 6 (by decide), fun y1 y2 y3 y4 y5 y6 => ?_⟩
  have d1 : k ≠ 1 := fun z => y1 ((e 1 (by decide)).mpr z)
  have d2 : k ≠ 2 := fun z => y2 ((e 2 (by decide)).mpr z)
  have d3 : k ≠ 3 := fun z => y3 ((e 3 (by decide)).mpr z)
  have d4 : k ≠ 4 := fun z => y4 ((e 4 (by decide)).mpr z)
  have d5 : k ≠ 5 := fun z => y5 ((e 5 (by decide)).mpr z)
  have d6 : k ≠ 6 := fun z => y6 ((e 6 (by decide)).mpr z)
  have e0 : k = 0 := by omega
  rw [← e0]
  exact h
theorem c_kind (hB : TB B l) (hc : c ≤ l) (hs : Ct B l c σ) {Q : Int32 → Prop} (h1 : kdT B l c < 7 → Q (nI (kdT B l c))) (h0 : kdT B l c = 7 → Q (-1)) : pX3_kindNamed σ Q := by
  have hk7 := kd_le (B := B) (l := l) (c := c)
  have key : ∀ d k, k + d = 7 → k ≤ kdT B l c → pX3_kindNamed_2 σ Q (d + 1) (nI k) := by
    intro d
    induction d with
    | zero =>
      intro k hk hle
      have ek : k = 7 := by omega
      subst ek
      show pX3_kindNamed_2s σ _ Q _
      unfold pX3_kindNamed_2s
      exact b_le (a := 7) (by decide) (by decide) (fun _ => h0 (by omega)) (fun y => by omega)
    | succ d ih =>
      intro k hk hle
      show pX3_kindNamed_2s σ (pX3_kindNamed_2 σ Q (d + 1)) Q _
      unfold pX3_kindNamed_2s
      rw [nI_1]
      refine b_le (a := 7) (by decide) (by omega) (fun y => by omega) (fun _ => nmOf (by omega) (c_isWord hB hc hs (by omega) (fun y => t1 ?_) (fun y => t0 (ih (k + 1) (by omega) ?_))))
      · have e : k = kdT B l c := by
          rcases Nat.lt_or_ge k (kdT B l c) with z | z
          · rw [kd_n z] at y
            exact absurd y (by decide)
          · omega
        rw [e]
        exact h1 (by omega)
      · rcases Nat.lt_or_ge k (kdT B l c) with z | z
        · exact z
        · have e : k = kdT B l c := by omega
          rw [e, kd_y (by omega)] at y
          exact absurd y (by decide)
  exact ⟨_, key 7 0 (by omega) (Nat.zero_le _)⟩
theorem c_rdItem (hB : TB B l) (hc : c ≤ l) (hs : Ct B l c σ) (hw : Wf M) (hr : Rc M σ2) {Q : Int32 → Mx → Mx → Prop} (h : rsl (fun it c' => ∀ σ' σ2', Ct B l c' σ' → Rc (apI M it) σ2' → Q 1 σ' σ2') (fun c' => ∀ σ' σ2', Ct B l c' σ' → Q 0 σ' σ2') (rdI B l (M 8 0) c)) : pX3_readItem σ σ2 Q := by
  unfold rdI at h
  unfold pX3_readItem pX3_readItem_52 pX3_readItem_53
  refine c_kind hB hc hs (fun z => ⟨fun y => absurd y (nI_pos (by omega)), fun _ => ?_⟩) (fun z => ⟨fun _ => c_isWord hB hc hs (by decide) (fun y => t1 ?_) (fun y => t0 (c_isWord hB hc hs (by decide) (fun y2 => t1 ?_) (fun y2 => t0 ?_))), fun y => absurd (by decide) y⟩)
  · rw [if_pos z] at h
    exact c_rdPiece hB hc hs hw z hr (rsl_mono h (fun it c' q σ' σ2' a b => ⟨Or.inr rfl, q σ' σ2' a b⟩) (fun c' q σ' σ2' a => ⟨Or.inl rfl, q σ' σ2' a⟩))
  · rw [if_neg (by omega), if_pos y] at h
    exact c_rdSwap hB hc hs hr (rsl_mono h (fun it c' q σ' σ2' a b => ⟨Or.inr rfl, q σ' σ2' a b⟩) (fun c' q σ' σ2' a => ⟨Or.inl rfl, q σ' σ2' a⟩))
  · rw [if_neg (by omega), if_neg (by rw [y]; decide), if_pos y2] at h
    exact c_rdLay hB hc hs hw hr (rsl_mono h (fun it c' q σ' σ2' a b => t1 ⟨Or.inr rfl, q σ' σ2' a b⟩) (fun c' q σ' σ2' a => t0 ⟨Or.inl rfl, q σ' σ2' a⟩))
  · rw [if_neg (by omega), if_neg (by rw [y]; decide), if_neg (by rw [y2]; decide)] at h
    have h' : ∀ σ' σ2', Ct B l c σ' → Q 0 σ' σ2' := h
    exact ⟨Or.inl rfl, h' _ _ hs⟩
end Items
