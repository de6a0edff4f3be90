/-! the reference's ITEMS -/
def rowI (w : Nat → Int32) (k : Nat) (it : Itm) : Prop := w (5 * k) = nI it.1 ∧ w (5 * k + 1) = nI it.2.1 ∧ w (5 * k + 2) = nI it.2.2.1 ∧ w (5 * k + 3) = (if it.1 < 7 then nI it.2.2.2.1 - 1 else nI it.2.2.2.1) ∧ w (5 * k + 4) = nI it.2.2.2.2
def Fp (τ τ' : Mx) : Prop := ∀ f, f < 8 ∨ 16 < f → τ' f = τ f
def Gq (B : Nat → Nat) (l : Nat) (τ0 : Mx) (c : Nat) (τ : Mx) : Prop := Mt B l c τ ∧ τ 12 0 = 0 ∧ Fk τ0 τ
def Bq (τ0 : Mx) (b : Nat) (τ : Mx) : Prop := τ 12 0 = 1 ∧ τ 8 0 = nI b ∧ Fk τ0 τ
/-- what is left of an ITEM, well read -/
def okI (B : Nat → Nat) (l : Nat) (τ0 : Mx) (k n : Nat) (Q : Mx → Prop) (it : Itm) (c : Nat) : Prop := ∀ τ', Mt B l c τ' → τ' 12 0 = 0 → Fp τ0 τ' → (∀ j, j < 5 * k → τ' 14 j = τ0 14 j) → rowI (τ' 14) k it → τ' 15 0 = nI (k + 1) → τ' 16 0 = nI (n + if it.1 < 7 then 1 else 0) → Q τ'
def noI (B : Nat → Nat) (l : Nat) (τ0 : Mx) (Q : Mx → Prop) (c : Nat) : Prop := ∀ τ', τ' 12 0 = 1 → τ' 8 0 = nI (bgT B l c) → Fp τ0 τ' → Q τ'
section Model
variable {B : Nat → Nat} {l c n k : Nat} {τ0 τ : Mx} {M : Nx}
theorem Fk.bm (h : Fk τ0 τ) (hb : Bm B l τ0) : Bm B l τ := by
  unfold Bm
  rw [h 7 (by omega), h 6 (by omega)]
  exact hb
theorem g_go (hB : TB B l) (hb : Bm B l τ0) (hc : c ≤ l) (hg : Gq B l τ0 c τ) {Q : Mx → Prop} (h : ∀ τ', Gq B l τ0 (enT B l c) τ' → Q τ') : pX5_must τ 1 Q :=
  m_go hB (hg.2.2.bm hb) hc hg.1 hg.2.1 (fun τ' a b d => h τ' ⟨a, b, fun f hf => (d f hf).trans (hg.2.2 f hf)⟩)
theorem Gq.bd (hg : Gq B l τ0 c τ) {τ' : Mx} (h : τ' 12 0 = 1) (hw : Fw τ τ') : Bq τ0 (bgT B l c) τ' :=
  ⟨h, by rw [hw 8 (by decide)]; exact hg.1.1, fun f hf => (hw f (by omega)).trans (hg.2.2 f hf)⟩
theorem Bq.bd {b : Nat} (hg : Bq τ0 b τ) {τ' : Mx} (h : τ' 12 0 = 1) (hw : Fw τ τ') : Bq τ0 b τ' :=
  ⟨h, by rw [hw 8 (by decide)]; exact hg.2.1, fun f hf => (hw f (by omega)).trans (hg.2.2 f hf)⟩
theorem g_no (hg : Gq B l τ0 c τ) {Q : Mx → Prop} (h : ∀ τ', Bq τ0 (bgT B l c) τ' → Q τ') : pX5_must τ 0 Q := m_no hg.2.1 (fun τ' a b => h τ' (hg.bd a b))
theorem w_mu {b : Nat} (hg : Bq τ0 b τ) {y : Int32} {Q : Mx → Prop} (h : ∀ τ', Bq τ0 b τ' → Q τ') : pX5_must τ y Q := m_wr hg.1 (fun τ' a d => h τ' (hg.bd a d))
theorem g_num (hB : TB B l) (hb : Bm B l τ0) (hc : c ≤ l) (hg : Gq B l τ0 c τ) {m : Nat} (hm : m ≤ 10000) {x : Int32} (hx : x = nI m - 1) {Q : Int32 → Mx → Prop} (h1 : nuT B l c m = true → ∀ τ', Gq B l τ0 (enT B l c) τ' → Q (nI (vaT B l c)) τ') (h0 : nuT B l c m = false → ∀ v τ', Bq τ0 (bgT B l c) τ' → Q v τ') : pX5_number τ 0 x Q :=
  m_num hB (hg.2.2.bm hb) hc hg.1 hg.2.1 hm hx (fun y τ' a b d => h1 y τ' ⟨a, b, fun f hf => (d f hf).trans (hg.2.2 f hf)⟩) (fun y v τ' a d => h0 y v τ' (hg.bd a d))
theorem w_num {b : Nat} (hg : Bq τ0 b τ) {lo x : Int32} {Q : Int32 → Mx → Prop} (h : ∀ v τ', Bq τ0 b τ' → Q v τ') : pX5_number τ lo x Q := m_numW hg.1 (fun v τ' a d => h v τ' (hg.bd a d))
theorem g_tak (hB : TB B l) (hb : Bm B l τ0) (hc : c ≤ l) (hg : Gq B l τ0 c τ) {w : Nat} (hw : w < 11) {Q : Int32 → Mx → Prop} (h1 : isW B l c w = true → ∀ τ', Gq B l τ0 (enT B l c) τ' → Q 1 τ') (h0 : isW B l c w = false → Q 0 τ) : pX5_takesWord τ w Q :=
  m_tak hB (hg.2.2.bm hb) hc hg.1 hg.2.1 hw (fun y τ' a b d => h1 y τ' ⟨a, b, fun f hf => (d f hf).trans (hg.2.2 f hf)⟩) h0
theorem m_add (h15 : τ 15 0 = nI k) (hk : k < 120) {x1 x2 x3 x4 x5 : Int32} {Q : Mx → Prop} (h : ∀ τ', (∀ f, f ≠ 14 → f ≠ 15 → τ' f = τ f) → τ' 15 0 = nI (k + 1) → (∀ j, j < 5 * k → τ' 14 j = τ 14 j) → τ' 14 (5 * k) = x1 → τ' 14 (5 * k + 1) = x2 → τ' 14 (5 * k + 2) = x3 → τ' 14 (5 * k + 3) = x4 → τ' 14 (5 * k + 4) = x5 → Q τ') : pX5_addItem τ x1 x2 x3 x4 x5 Q := by
  unfold pX5_addItem
  intro v6 e6
  have e5 : (5 : Int32) * nI k = nI (5 * k) := pk_mul 5 k
  rw [h15, e5] at e6
  subst e6
  have i2 : nI (5 * k) + 2 = nI (5 * k + 2) := nI_add _ 2
  have i3 : nI (5 * k) + 3 = nI (5 * k + 3) := nI_add _ 3
  have i4 : nI (5 * k) + 4 = nI (5 * k + 4) := nI_add _ 4
  rw [nI_1, i2, i3, i4, nI_clamp (show 5 * k < 2 ^ 31 by omega), nI_clamp (show 5 * k + 1 < 2 ^ 31 by omega), nI_clamp (show 5 * k + 2 < 2 ^ 31 by omega), nI_clamp (show 5 * k + 3 < 2 ^ 31 by omega), nI_clamp (show 5 * k + 4 < 2 ^ 31 by omega)]
  refine ⟨vp_in_nI (by omega) (by decide), vp_in_nI (by omega) (by decide), vp_in_nI (by omega) (by decide), vp_in_nI (by omega) (by decide), vp_in_nI (by omega) (by decide), h _ (fun f a b => ?_) ?_ (fun j hj => ?_) ?_ ?_ ?_ ?_ ?_⟩
  · rw [st_nf b, st_nf a, st_nf a, st_nf a, st_nf a, st_nf a]
  · rw [st_at, st_nf (by decide), st_nf (by decide), st_nf (by decide), st_nf (by decide), st_nf (by decide), h15, nI_1]
  · rw [st_nf (by decide), st_off (by omega), st_off (by omega), st_off (by omega), st_off (by omega), st_off (by omega)]
  · rw [st_nf (by decide), st_off (by omega), st_off (by omega), st_off (by omega), st_off (by omega), st_at]
  · rw [st_nf (by decide), st_off (by omega), st_off (by omega), st_off (by omega), st_at]
  · rw [st_nf (by decide), st_off (by omega), st_off (by omega), st_at]
  · rw [st_nf (by decide), st_off (by omega), st_at]
  · rw [st_nf (by decide), st_at]
theorem w_78 (h15 : τ0 15 0 = nI k) (hk : k < 120) (hg : Bq τ0 (bgT B l c) τ) {y0 y1 y2 y3 y4 : Int32} {Q : Mx → Prop} (h : noI B l τ0 Q c) : pX5_readPiece_78 Q y0 y1 y2 y3 y4 τ := by
  unfold pX5_readPiece_78
  refine m_add (by rw [hg.2.2 15 (by omega)]; exact h15) hk (fun τ' a _ _ _ _ _ _ _ => h _ ?_ ?_ (fun f hf => ?_))
  · rw [st_nf (by decide), a 12 (by decide) (by decide)]
    exact hg.1
  · rw [st_nf (by decide), a 8 (by decide) (by decide)]
    exact hg.2.1
  · rw [st_nf (by omega), a f (by omega) (by omega)]
    exact hg.2.2 f (by omega)
theorem g_78 (h15 : τ0 15 0 = nI k) (h16 : τ0 16 0 = nI n) (hk : k < 120) (hg : Gq B l τ0 c τ) {kd a b w t : Nat} (hkd : kd < 7) {Q : Mx → Prop} (h : okI B l τ0 k n Q (kd, a, b, w, t) c) : pX5_readPiece_78 Q (nI t) (nI w - 1) (nI b) (nI a) (nI kd) τ := by
  unfold pX5_readPiece_78
  refine m_add (by rw [hg.2.2 15 (by omega)]; exact h15) hk (fun τ' q q15 qj q0 q1 q2 q3 q4 => h _ ?_ ?_ (fun f hf => ?_) (fun j hj => ?_) ?_ ?_ ?_)
  · unfold Mt
    rw [st_nf (by decide), st_nf (by decide), st_nf (by decide), st_nf (by decide), q 8 (by decide) (by decide), q 9 (by decide) (by decide), q 10 (by decide) (by decide), q 11 (by decide) (by decide)]
    exact hg.1
  · rw [st_nf (by decide), q 12 (by decide) (by decide)]
    exact hg.2.1
  · rw [st_nf (by omega), q f (by omega) (by omega)]
    exact hg.2.2 f (by omega)
  · rw [st_nf (by decide), qj j hj, hg.2.2 14 (by omega)]
  · rw [st_nf (by decide)]
    exact ⟨q0, q1, q2, q3.trans (if_pos hkd).symm, q4⟩
  · rw [st_nf (by decide)]
    exact q15
  · rw [st_at, q 16 (by decide) (by decide), hg.2.2 16 (by omega), h16, nI_1, if_pos hkd]
theorem w_55 (h15 : τ0 15 0 = nI k) (hk : k < 120) (hg : Bq τ0 (bgT B l c) τ) {x1 x2 x3 y0 : Int32} {Q : Mx → Prop} (h : noI B l τ0 Q c) : pX5_readPiece_55 Q x1 x2 x3 y0 τ := by
  unfold pX5_readPiece_55
  exact m_takW hg.1 (t0 (w_78 h15 hk hg h))
theorem g_55 (hB : TB B l) (hb : Bm B l τ0) (hc : c ≤ l) (h15 : τ0 15 0 = nI k) (h16 : τ0 16 0 = nI n) (hk : k < 120) (hg : Gq B l τ0 c τ) {kd a b w : Nat} (hkd : kd < 7) {Q : Mx → Prop} (h : rsl (okI B l τ0 k n Q) (noI B l τ0 Q) (rdU B l kd a b w c)) : pX5_readPiece_55 Q (nI kd) (nI a) (nI b) (nI w - 1) τ := by
  unfold rdU at h
  unfold pX5_readPiece_55
  refine g_tak hB hb hc hg (by decide) (fun y τ' hg' => t1 ?_) (fun y => t0 ?_)
  · rw [if_pos y] at h
    exact g_78 (t := 1) h15 h16 hk hg' hkd h
  · rw [if_neg (by rw [y]; decide)] at h
    exact g_78 (t := 0) h15 h16 hk hg hkd h
theorem m_rdPiece (hB : TB B l) (hb : Bm B l τ0) (hc : c ≤ l) (h15 : τ0 15 0 = nI k) (h16 : τ0 16 0 = nI n) (hn : n ≤ 8) (hk : k < 120) (hg : Gq B l τ0 c τ0) {kd : Nat} (hkd : kd < 7) {Q : Mx → Prop} (h : rsl (okI B l τ0 k n Q) (noI B l τ0 Q) (rdP B l n kd c)) : pX5_readPiece τ0 (nI kd) Q := by
  have he := en_le (B := B) hc
  have he2 := en_le (B := B) he
  have he3 := en_le (B := B) he2
  have he4 := en_le (B := B) he3
  unfold rdP at h
  unfold pX5_readPiece
  rw [h16]
  refine b_le (a := 8) (by decide) (by omega) (fun y => ?_) (fun y => ?_)
  · rw [if_neg (by omega)] at h
    have h' : noI B l τ0 Q c := h
    unfold pX5_readPiece_15
    exact g_no hg (fun τ1 g1 => w_num g1 (fun v1 τ2 g2 => w_num g2 (fun v2 τ3 g3 => m_takW g3.1 (t0 (w_55 h15 hk g3 h')))))
  · rw [if_pos y] at h
    unfold pX5_readPiece_15
    refine g_go hB hb hc hg (fun τ1 g1 => g_num (m := 10) hB hb he g1 (by decide) (by decide) (fun z τ2 g2 => ?_) (fun z v1 τ2 g2 => ?_))
    · rw [if_pos z] at h
      refine g_num (m := 10) hB hb he2 g2 (by decide) (by decide) (fun z2 τ3 g3 => ?_) (fun z2 v2 τ3 g3 => ?_)
      · rw [if_pos z2] at h
        unfold rdW at h
        refine g_tak hB hb he3 g3 (by decide) (fun z3 τ4 g4 => t1 ?_) (fun z3 => t0 ?_)
        · rw [if_pos z3] at h
          refine g_num (m := 8) hB hb he4 g4 (by decide) (by decide) (fun z4 τ5 g5 => ?_) (fun z4 v4 τ5 g5 => ?_)
          · rw [if_pos z4] at h
            have r := g_55 (w := vaT B l (enT B l (enT B l (enT B l (enT B l c)))) + 1) hB hb (en_le he4) h15 h16 hk g5 hkd h
            rw [nI_pred] at r
            exact r
          · rw [if_neg (by rw [z4]; decide)] at h
            have h' : noI B l τ0 Q (enT B l (enT B l (enT B l (enT B l c)))) := h
            exact w_55 h15 hk g5 h'
        · rw [if_neg (by rw [z3]; decide)] at h
          exact g_55 (w := 0) hB hb he3 h15 h16 hk g3 hkd h
      · rw [if_neg (by rw [z2]; decide)] at h
        have h' : noI B l τ0 Q (enT B l (enT B l c)) := h
        exact m_takW g3.1 (t0 (w_55 h15 hk g3 h'))
    · rw [if_neg (by rw [z]; decide)] at h
      have h' : noI B l τ0 Q (enT B l c) := h
      exact w_num g2 (fun v2 τ3 g3 => m_takW g3.1 (t0 (w_55 h15 hk g3 h')))
/-- an ITEM that is no PIECE is added -/
theorem g_ad (h15 : τ0 15 0 = nI k) (h16 : τ0 16 0 = nI n) (hk : k < 120) (hg : Gq B l τ0 c τ) {kd a b w t : Nat} (hkd : ¬ kd < 7) {Q : Mx → Prop} (h : okI B l τ0 k n Q (kd, a, b, w, t) c) : pX5_addItem τ (nI kd) (nI a) (nI b) (nI w) (nI t) (fun u => pX5_readItem_144 Q u) := by
  refine m_add (by rw [hg.2.2 15 (by omega)]; exact h15) hk (fun τ' q q15 qj q0 q1 q2 q3 q4 => h _ ?_ ?_ (fun f hf => ?_) (fun j hj => ?_) ?_ ?_ ?_)
  · unfold Mt
    rw [q 8 (by decide) (by decide), q 9 (by decide) (by decide), q 10 (by decide) (by decide), q 11 (by decide) (by decide)]
    exact hg.1
  · rw [q 12 (by decide) (by decide)]
    exact hg.2.1
  · rw [q f (by omega) (by omega)]
    exact hg.2.2 f (by omega)
  · rw [qj j hj, hg.2.2 14 (by omega)]
  · exact ⟨q0, q1, q2, q3.trans (if_neg hkd).symm, q4⟩
  · exact q15
  · rw [q 16 (by decide) (by decide), hg.2.2 16 (by omega), h16, if_neg hkd]
    rfl
theorem w_ad (h15 : τ0 15 0 = nI k) (hk : k < 120) (hg : Bq τ0 (bgT B l c) τ) {x1 x2 x3 x4 x5 : Int32} {Q : Mx → Prop} (h : noI B l τ0 Q c) : pX5_addItem τ x1 x2 x3 x4 x5 (fun u => pX5_readItem_144 Q u) := by
  refine m_add (by rw [hg.2.2 15 (by omega)]; exact h15) hk (fun τ' a _ _ _ _ _ _ _ => h _ ?_ ?_ (fun f hf => ?_))
  · rw [a 12 (by decide) (by decide)]
    exact hg.1
  · rw [a 8 (by decide) (by decide)]
    exact hg.2.1
  · rw [a f (by omega) (by omega)]
    exact hg.2.2 f (by omega)
theorem m_rdItem (hB : TB B l) (hb : Bm B l τ0) (hc : c ≤ l) (h15 : τ0 15 0 = nI k) (h16 : τ0 16 0 = nI n) (hn : n ≤ 8) (hk : bgT B l c < l → k < 120) (hs : Mt B l c τ0) (h12 : τ0 12 0 = 0) {Q : Mx → Prop} (h : rsl (okI B l τ0 k n Q) (noI B l τ0 Q) (rdI B l n c)) : pX5_readItem τ0 Q := by
  have he := en_le (B := B) hc
  have he2 := en_le (B := B) he
  have he3 := en_le (B := B) he2
  have hg : Gq B l τ0 c τ0 := ⟨hs, h12, fun _ _ => rfl⟩
  have hk7 := kd_le (B := B) (l := l) (c := c)
  have key : ∀ d j x, j + d = 7 → x = (if kdT B l c < j then nI (kdT B l c) else -1) → pX5_readItem_4 Q (d + 1) x (nI j) τ0 := by
    intro d
    induction d with
    | zero =>
      intro j x hj ex
      have ej : j = 7 := by omega
      subst ej
      show pX5_readItem_4s _ Q _ _ _
      unfold pX5_readItem_4s
      unfold rdI at h
      refine b_le (a := 7) (by decide) (by decide) (fun _ => ?_) (fun y => by omega)
      by_cases z : kdT B l c < 7
      · rw [if_pos z] at ex h
        subst ex
        refine ⟨fun y => absurd y (nI_pos (by omega)), fun _ => ?_⟩
        exact m_rdPiece hB hb hc h15 h16 hn (hk (isW_lt (kd_y z)).1) hg z h
      · rw [if_neg z] at ex h
        subst ex
        refine ⟨fun _ => g_tak hB hb hc hg (by decide) (fun z1 τ1 g1 => t1 ?_) (fun z1 => t0 (g_tak hB hb hc hg (by decide) (fun z2 τ1 g1 => t1 ?_) (fun z2 => t0 ?_))), fun y => absurd (by decide) y⟩
        · have hk' := hk (isW_lt z1).1
          rw [if_pos z1] at h
          unfold rdS at h
          refine g_num (m := 6) hB hb he g1 (by decide) (by decide) (fun y τ2 g2 => ?_) (fun y v2 τ2 g2 => ?_)
          · rw [if_pos y] at h
            refine g_num (m := 8) hB hb he2 g2 (by decide) (by decide) (fun y2 τ3 g3 => ?_) (fun y2 v3 τ3 g3 => ?_)
            · rw [if_pos y2] at h
              refine g_num (m := 8) hB hb he3 g3 (by decide) (by decide) (fun y3 τ4 g4 => ?_) (fun y3 v4 τ4 g4 => ?_)
              · rw [if_pos y3] at h
                exact g_ad (kd := 10) (t := 0) h15 h16 hk' g4 (by decide) h
              · rw [if_neg (by rw [y3]; decide)] at h
                have h' : noI B l τ0 Q (enT B l (enT B l (enT B l c))) := h
                exact w_ad h15 hk' g4 h'
            · rw [if_neg (by rw [y2]; decide)] at h
              have h' : noI B l τ0 Q (enT B l (enT B l c)) := h
              exact w_num g3 (fun v4 τ4 g4 => w_ad h15 hk' g4 h')
          · rw [if_neg (by rw [y]; decide)] at h
            have h' : noI B l τ0 Q (enT B l c) := h
            exact w_num g2 (fun v3 τ3 g3 => w_num g3 (fun v4 τ4 g4 => w_ad h15 hk' g4 h'))
        · have hk' := hk (isW_lt z2).1
          rw [if_neg (by rw [z1]; decide), if_pos z2] at h
          unfold rdL at h
          rw [g1.2.2 16 (by omega), h16]
          refine g_num (m := n) hB hb he g1 (by omega) rfl (fun y τ2 g2 => ?_) (fun y v2 τ2 g2 => ?_)
          · rw [if_pos y] at h
            rw [g2.2.2 16 (by omega), h16]
            refine g_num (m := n) hB hb he2 g2 (by omega) rfl (fun y2 τ3 g3 => ?_) (fun y2 v3 τ3 g3 => ?_)
            · rw [if_pos y2] at h
              exact g_ad (kd := 11) (w := 0) (t := 0) h15 h16 hk' g3 (by decide) h
            · rw [if_neg (by rw [y2]; decide)] at h
              have h' : noI B l τ0 Q (enT B l (enT B l c)) := h
              exact w_ad h15 hk' g3 h'
          · rw [if_neg (by rw [y]; decide)] at h
            have h' : noI B l τ0 Q (enT B l c) := h
            exact w_num g2 (fun v3 τ3 g3 => w_ad h15 hk' g3 h')
        · rw [if_neg (by rw [z1]; decide), if_neg (by rw [z2]; decide)] at h
          have h' : noI B l τ0 Q c := h
          exact g_no hg (fun τ1 g1 => h' _ g1.1 g1.2.1 (fun f hf => g1.2.2 f (by omega)))
    | succ d ih =>
      intro j x hj ex
      show pX5_readItem_4s (pX5_readItem_4 Q (d + 1)) Q _ _ _
      unfold pX5_readItem_4s pX5_readItem_31
      rw [nI_1, nI_clamp (show j < 2 ^ 31 by omega)]
      refine b_le (a := 7) (by decide) (by omega) (fun y => by omega) (fun _ => ⟨vp_in_nI (by omega) (by decide), m_isWord hB hb hc hs (by omega) (fun y => t1 (ih (j + 1) _ (by omega) ?_)) (fun y => t0 (ih (j + 1) _ (by omega) ?_))⟩)
      · have e : kdT B l c = j := by
          have hle : kdT B l c ≤ j := by
            rcases Nat.lt_or_ge j (kdT B l c) with z | z
            · rw [kd_n z] at y
              exact absurd y (by decide)
            · exact z
          exact isW_u (by omega) (by omega) (kd_y (by omega)) y
        rw [e, if_pos (by omega)]
      · rw [ex]
        have e : kdT B l c ≠ j := by
          intro z
          rw [← z, kd_y (by omega)] at y
          exact absurd y (by decide)
        by_cases z : kdT B l c < j
        · rw [if_pos z, if_pos (by omega)]
        · rw [if_neg z, if_neg (by omega)]
  exact ⟨_, key 7 0 (-1) (by omega) (by rw [if_neg (by omega)])⟩
theorem m_told1 (hw : Wf M) (hr : Rm M (τ 0)) {it : Itm} (hrow : rowI (τ 14) k it) (hv : vaI (M 8 0) it) (hk : k < 120) {Q : Mx → Prop} (h : ∀ τ', Rm (apI M it) (τ' 0) → Fr0 τ τ' → Q τ') : pX5_isToldSo τ (nI (5 * k)) Q := by
  have h8 := hw.1
  obtain ⟨kd, a, b, w, t⟩ := it
  obtain ⟨q0, q1, q2, q3, q4⟩ := hrow
  have i2 : nI (5 * k) + 2 = nI (5 * k + 2) := nI_add _ 2
  have i3 : nI (5 * k) + 3 = nI (5 * k + 3) := nI_add _ 3
  have i4 : nI (5 * k) + 4 = nI (5 * k + 4) := nI_add _ 4
  unfold pX5_isToldSo pX5_isToldSo_133
  rw [nI_1, i2, i3, i4, nI_clamp (show 5 * k < 2 ^ 31 by omega), nI_clamp (show 5 * k + 1 < 2 ^ 31 by omega), nI_clamp (show 5 * k + 2 < 2 ^ 31 by omega), nI_clamp (show 5 * k + 3 < 2 ^ 31 by omega), nI_clamp (show 5 * k + 4 < 2 ^ 31 by omega), q0, q1, q2, q3]
  have v0 : vp_in (nI (5 * k)) 600 := vp_in_nI (by omega) (by decide)
  refine ⟨vp_in_nI (by omega) (by decide), ?_⟩
  intro v8 e8
  refine ⟨vp_in_nI (by omega) (by decide), ?_⟩
  intro v17 e17
  refine ⟨vp_in_nI (by omega) (by decide), ?_⟩
  intro v26 e26
  refine ⟨v0, ?_⟩
  intro v34 e34
  subst e8 e17 e26 e34
  rcases hv with ⟨h1, h2, h3, h4⟩ | ⟨h1, h2, h3⟩ | ⟨h1, h2, h3, h4, h5, h6⟩
  · have e1 : kd = 10 := h1
    subst e1
    have e3 : (3 : Int32) + nI a = nI (3 + a) := nI_add 3 a
    have ha : a < 6 := h2
    refine ⟨fun _ => ?_, fun y => absurd y (show ¬ nI 10 = 11 by decide), fun y => absurd rfl y⟩
    rw [if_neg (show ¬ (10 : Nat) < 7 by decide)]
    show vp_in (3 + nI a) 67 ∧ Q (st τ 0 (3 + nI a).toNatClampNeg ((10 * nI b) + nI w))
    rw [e3, nI_clamp (by omega), ten]
    refine ⟨vp_in_nI (by omega) (by decide), h _ ?_ Fr0.st⟩
    rw [ap_10]
    exact Rm_s5 hr ha
  · have e1 : kd = 11 := h1
    subst e1
    refine ⟨fun y => absurd y (show ¬ nI 11 = 10 by decide), fun _ => ?_, fun _ y => absurd rfl y⟩
    refine m_ex hw hr rfl rfl h2 h3 (fun τ' hr' hf' => h _ ?_ hf')
    rw [ap_11]
    exact hr'
  · have hkd : kd < 7 := h1
    have d10 : ¬ nI kd = 10 := fun y => by have := (nI_eq (b := 10) (by omega) (by decide)).mp y; omega
    have d11 : ¬ nI kd = 11 := fun y => by have := (nI_eq (b := 11) (by omega) (by decide)).mp y; omega
    refine ⟨fun y => absurd y d10, fun y => absurd y d11, fun _ _ => ⟨v0, ?_⟩⟩
    refine m_cut hr h6 (fun u hu hf => m_pieceAt (f := 3) ⟨vp_in_nI (by omega) (by decide), m_pieceAt (f := 4) ⟨vp_in_nI (by omega) (by decide), vp_in_nI (by omega) (by decide), ?_⟩⟩)
    rw [nI_clamp (show 19 + 5 * M 8 0 + 3 < 2 ^ 31 by omega), nI_clamp (show 19 + 5 * M 8 0 + 4 < 2 ^ 31 by omega)]
    have e14 : ∀ x, (st u 0 (19 + 5 * M 8 0 + 3) x) 14 (5 * k + 4) = nI t := fun x => by
      rw [st_nf (by decide), hf 14 (by decide)]
      exact q4
    rw [e14]
    refine h _ ?_ (Fr0.tr (Fr0.tr hf Fr0.st) Fr0.st)
    rw [ap_k hkd, if_pos hkd]
    exact Rm_s7 (Rm_s3 hu h6) h6
end Model
