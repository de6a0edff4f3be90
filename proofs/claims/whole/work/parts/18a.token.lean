/-! TOKENS of THE TAPE: bytes B, l of them; a TOKEN is told by where the one before it ended, c -/
def rn (P : Nat → Bool) : Nat → Nat → Nat
  | 0, i => i
  | d + 1, i => if P i = true then rn P d (i + 1) else i
theorem rn_ge {P : Nat → Bool} : ∀ d i, i ≤ rn P d i
  | 0, i => Nat.le_refl i
  | d + 1, i => by
    have := rn_ge (P := P) d (i + 1)
    rw [rn]
    split <;> omega
theorem rn_le {P : Nat → Bool} : ∀ d i, rn P d i ≤ i + d
  | 0, i => Nat.le_refl i
  | d + 1, i => by
    have := rn_le (P := P) d (i + 1)
    rw [rn]
    split <;> omega
theorem rn_in {P : Nat → Bool} : ∀ d i j, i ≤ j → j < rn P d i → P j = true
  | 0, i, j, h1, h2 => by
    rw [rn] at h2
    omega
  | d + 1, i, j, h1, h2 => by
    rw [rn] at h2
    by_cases e : P i = true
    · rw [if_pos e] at h2
      by_cases e2 : j = i
      · rw [e2]; exact e
      · exact rn_in d (i + 1) j (by omega) h2
    · rw [if_neg e] at h2
      omega
theorem rn_out {P : Nat → Bool} : ∀ d i, rn P d i < i + d → P (rn P d i) = false
  | 0, i, h => by
    rw [rn] at h
    omega
  | d + 1, i, h => by
    rw [rn] at h ⊢
    by_cases e : P i = true
    · rw [if_pos e] at h ⊢
      exact rn_out d (i + 1) (by omega)
    · rw [if_neg e]
      exact Bool.eq_false_iff.mpr e
def TB (B : Nat → Nat) (l : Nat) : Prop := l ≤ 120 ∧ ∀ j, j < l → B j < 256
def srC (B : Nat → Nat) (l i : Nat) : Nat := if l ≤ i then 0 else if 97 ≤ B i ∧ B i ≤ 122 then 1 else if 48 ≤ B i ∧ B i ≤ 57 then 2 else if B i = 59 then 3 else 4
def bgT (B : Nat → Nat) (l c : Nat) : Nat := rn (fun j => decide (B j = 32)) (l - c) c
def soT (B : Nat → Nat) (l c : Nat) : Nat := srC B l (bgT B l c)
def enX (B : Nat → Nat) (l b : Nat) : Nat := if srC B l b = 0 then b else if srC B l b = 1 ∨ srC B l b = 2 then rn (fun j => decide (srC B l j = srC B l b)) (l - b) b else b + 1
def enT (B : Nat → Nat) (l c : Nat) : Nat := enX B l (bgT B l c)
def vf (B : Nat → Nat) (b : Nat) : Nat → Nat
  | 0 => 0
  | k + 1 => if 10000 < 10 * vf B b k + (B (b + k) - 48) then 10000 else 10 * vf B b k + (B (b + k) - 48)
def vaT (B : Nat → Nat) (l c : Nat) : Nat := vf B (bgT B l c) (enT B l c - bgT B l c)
section Token
variable {B : Nat → Nat} {l c : Nat} {σ τ : Mx}
theorem srC_lt {i : Nat} : srC B l i < 5 := by
  unfold srC
  repeat' split
  all_goals omega
theorem srC_0 {i : Nat} : srC B l i = 0 ↔ l ≤ i := by
  unfold srC
  constructor
  · intro h
    by_cases e : l ≤ i
    · exact e
    · rw [if_neg e] at h
      repeat' split at h
      all_goals omega
  · intro h
    rw [if_pos h]
theorem srC_1 {i : Nat} (h : i < l) : srC B l i = 1 ↔ 97 ≤ B i ∧ B i ≤ 122 := by
  unfold srC
  rw [if_neg (by omega)]
  constructor
  · intro h
    by_cases e : 97 ≤ B i ∧ B i ≤ 122
    · exact e
    · rw [if_neg e] at h
      repeat' split at h
      all_goals omega
  · intro h
    rw [if_pos h]
theorem srC_2 {i : Nat} (h : i < l) : srC B l i = 2 ↔ 48 ≤ B i ∧ B i ≤ 57 := by
  unfold srC
  rw [if_neg (by omega)]
  constructor
  · intro h
    by_cases e : 48 ≤ B i ∧ B i ≤ 57
    · exact e
    · rw [if_neg e] at h
      repeat' split at h
      all_goals omega
  · intro h
    rw [if_neg (by omega), if_pos h]
theorem vf_le {b : Nat} : ∀ k, vf B b k ≤ 10000
  | 0 => Nat.zero_le _
  | k + 1 => by
    rw [vf]
    split <;> omega
theorem bg_ge : c ≤ bgT B l c := rn_ge _ _
theorem bg_le (hc : c ≤ l) : bgT B l c ≤ l := by
  have := rn_le (P := fun j => decide (B j = 32)) (l - c) c
  unfold bgT
  omega
theorem enX_ge {b : Nat} : b ≤ enX B l b := by
  unfold enX
  split
  · exact Nat.le_refl b
  · split
    · exact rn_ge _ _
    · omega
theorem enX_le {b : Nat} (hb : b ≤ l) : enX B l b ≤ l := by
  unfold enX
  split
  · exact hb
  · rename_i h
    have h1 : ¬ l ≤ b := fun y => h (srC_0.mpr y)
    split
    · have := rn_le (P := fun j => decide (srC B l j = srC B l b)) (l - b) b
      omega
    · omega
theorem enX_r {b : Nat} (hb : b < l) (h : srC B l b = 1 ∨ srC B l b = 2) : enX B l b = rn (fun j => decide (srC B l j = srC B l b)) (l - (b + 1)) (b + 1) := by
  unfold enX
  rw [if_neg (by omega), if_pos h, show l - b = l - (b + 1) + 1 by omega, rn, if_pos (decide_eq_true rfl)]
theorem enX_gt {b : Nat} (hb : b < l) : b < enX B l b := by
  by_cases h : srC B l b = 1 ∨ srC B l b = 2
  · rw [enX_r hb h]
    exact rn_ge _ _
  · have h0 : srC B l b ≠ 0 := fun y => by have := srC_0.mp y; omega
    unfold enX
    rw [if_neg h0, if_neg h]
    omega
theorem en_le (hc : c ≤ l) : enT B l c ≤ l := enX_le (bg_le hc)
theorem so_0 : soT B l c = 0 ↔ l ≤ bgT B l c := srC_0
theorem so_n (h : soT B l c ≠ 0) : bgT B l c < l := by
  rcases Nat.lt_or_ge (bgT B l c) l with y | y
  · exact y
  · exact absurd (so_0.mpr y) h
/-- the class's tape -/
def Bc (B : Nat → Nat) (l : Nat) (σ : Mx) : Prop := σ 1 0 = nI l ∧ ∀ j, j < l → σ 0 j = nI (B j)
def Ct (B : Nat → Nat) (l c : Nat) (σ : Mx) : Prop := Bc B l σ ∧ σ 2 0 = nI (soT B l c) ∧ σ 3 0 = nI (bgT B l c) ∧ σ 4 0 = nI (enT B l c)
theorem Bc.st (h : Bc B l σ) {f j : Nat} {x : Int32} (hf : 2 ≤ f) : Bc B l (st σ f j x) := by
  unfold Bc
  rw [st_nf (by omega), st_nf (by omega)]
  exact h
theorem c_sortAt (hB : TB B l) (hb : Bc B l σ) {i : Nat} (hi : i ≤ l) {Q : Int32 → Prop} (h : Q (nI (srC B l i))) : pX3_sortAt σ (nI i) Q := by
  have hl := hB.1
  unfold pX3_sortAt pX3_sortAt_34 pX3_sortAt_58 pX3_sortAt_74
  rcases Nat.lt_or_ge i l with y | y
  · have h256 := hB.2 i y
    have hv : vp_in (nI i) 120 := vp_in_nI (by omega) (by decide)
    rw [hb.1, nI_clamp (by omega), hb.2 i y]
    have hn : ¬ l ≤ i := by omega
    unfold srC at h
    rw [if_neg hn] at h
    have h58 : ¬ (97 ≤ B i ∧ B i ≤ 122) → ¬ (48 ≤ B i ∧ B i ≤ 57) → vp_in (nI i) 120 ∧ ((¬ nI (B i) = 59 → Q 4) ∧ (nI (B i) = 59 → Q 3)) := by
      intro z1 z2
      rw [if_neg z1, if_neg z2] at h
      refine ⟨hv, b_eq' (b := 59) (by omega) (by decide) (fun z => ?_) (fun z => ?_)⟩
      · rw [if_pos z] at h
        exact h
      · rw [if_neg z] at h
        exact h
    have h34 : ¬ (97 ≤ B i ∧ B i ≤ 122) → vp_in (nI i) 120 ∧ ((nI (B i) < 48 → vp_in (nI i) 120 ∧ ((¬ nI (B i) = 59 → Q 4) ∧ (nI (B i) = 59 → Q 3))) ∧ (¬ nI (B i) < 48 → (vp_in (nI i) 120 ∧ ((57 < nI (B i) → vp_in (nI i) 120 ∧ ((¬ nI (B i) = 59 → Q 4) ∧ (nI (B i) = 59 → Q 3))) ∧ (¬ 57 < nI (B i) → Q 2))))) := by
      intro z1
      refine ⟨hv, b_lt (b := 48) (by omega) (by decide) (fun z => h58 z1 (by omega)) (fun z => ⟨hv, b_lt (a := 57) (by decide) (by omega) (fun z2 => h58 z1 (by omega)) (fun z2 => ?_)⟩)⟩
      rw [if_neg z1, if_pos ⟨z, z2⟩] at h
      exact h
    refine b_lt (by omega) (by omega) (fun _ => ⟨hv, b_lt (b := 97) (by omega) (by decide) (fun z => h34 (by omega)) (fun z => ⟨hv, b_lt (a := 122) (by decide) (by omega) (fun z2 => h34 (by omega)) (fun z2 => ?_)⟩)⟩) (fun z => by omega)
    rw [if_pos ⟨z, z2⟩] at h
    exact h
  · rw [hb.1]
    unfold srC at h
    rw [if_pos y] at h
    exact b_lt (by omega) (by omega) (fun z => by omega) (fun _ => h)
theorem c_step0 (hB : TB B l) (hb : Bc B l σ) (h4 : σ 4 0 = nI c) (hc : c ≤ l) {Q : Mx → Prop} (h : ∀ σ', Ct B l c σ' → Q σ') : pX3_step σ Q := by
  have hl := hB.1
  have L2 : ∀ (s b e : Nat), s ≠ 0 → s < 5 → (∀ σ', Bc B l σ' → σ' 2 0 = nI s → σ' 3 0 = nI b → σ' 4 0 = nI e → Q σ') → ∀ d i (σ' : Mx), i + d = l → Bc B l σ' → σ' 2 0 = nI s → σ' 3 0 = nI b → σ' 4 0 = nI i → rn (fun j => decide (srC B l j = s)) d i = e → pX3_step_104 Q (d + 1) 1 σ' := by
    intro s b e hs hs5 hQ d
    induction d with
    | zero =>
      intro i σ' hi c1 c2 c3 c4 he
      have ei : i = l := by omega
      subst ei
      rw [rn] at he
      subst he
      show pX3_step_104s _ Q _ _
      unfold pX3_step_104s pX3_step_147
      rw [c1.1, c4]
      exact t1 (b_le (by omega) (by omega) (fun _ => hQ σ' c1 c2 c3 c4) (fun z => by omega))
    | succ d ih =>
      intro i σ' hi c1 c2 c3 c4 he
      show pX3_step_104s (pX3_step_104 Q (d + 1)) Q _ _
      unfold pX3_step_104s pX3_step_147
      have hs5' := srC_lt (B := B) (l := l) (i := i)
      rw [c1.1, c4, c2, nI_1]
      refine t1 (b_le (by omega) (by omega) (fun z => by omega) (fun _ => c_sortAt hB c1 (by omega) (b_eq' (by omega) (by omega) (fun z => ?_) (fun z => ?_))))
      · rw [rn, if_pos (decide_eq_true z)] at he
        exact ih (i + 1) _ (by omega) (c1.st (by decide)) (by rw [st_nf (by decide)]; exact c2) (by rw [st_nf (by decide)]; exact c3) st_at he
      · rw [rn, if_neg (by rw [decide_eq_true_iff]; exact z)] at he
        subst he
        exact hQ σ' c1 c2 c3 c4
  have L46 : ∀ σ', Bc B l σ' → σ' 3 0 = nI (bgT B l c) → pX3_step_46 Q σ' := by
    intro σ' c1 c3
    have hbl := bg_le (B := B) hc
    have hs5 := srC_lt (B := B) (l := l) (i := bgT B l c)
    unfold pX3_step_46 pX3_step_79 pX3_step_98 pX3_step_103
    rw [c3]
    refine c_sortAt hB c1 hbl ?_
    have k20 : (st σ' 2 0 (nI (srC B l (bgT B l c)))) 2 0 = nI (srC B l (bgT B l c)) := st_at
    have k30 : (st σ' 2 0 (nI (srC B l (bgT B l c)))) 3 0 = nI (bgT B l c) := by rw [st_nf (by decide), c3]
    rw [k20, k30, nI_1]
    have k2 : ∀ y, (st (st σ' 2 0 (nI (srC B l (bgT B l c)))) 4 0 y) 2 0 = nI (srC B l (bgT B l c)) := fun y => by rw [st_nf (by decide), st_at]
    have k3 : ∀ y, (st (st σ' 2 0 (nI (srC B l (bgT B l c)))) 4 0 y) 3 0 = nI (bgT B l c) := fun y => by rw [st_nf (by decide), st_nf (by decide), c3]
    have kb : ∀ y, Bc B l (st (st σ' 2 0 (nI (srC B l (bgT B l c)))) 4 0 y) := fun y => (c1.st (by decide)).st (by decide)
    rw [k2, k2]
    have fin : ∀ σ'', Bc B l σ'' → σ'' 2 0 = nI (srC B l (bgT B l c)) → σ'' 3 0 = nI (bgT B l c) → σ'' 4 0 = nI (enT B l c) → Q σ'' := fun σ'' a1 a2 a3 a4 => h σ'' ⟨a1, a2, a3, a4⟩
    refine b_eq' (b := 0) (by omega) (by decide) (fun z => ?_) (fun z => ?_)
    · refine b_eq (b := 1) (by omega) (by decide) (fun y => by omega) (fun y => b_eq' (b := 2) (by omega) (by decide) (fun y => by omega) (fun y => ⟨1, ?_⟩))
      show pX3_step_104s _ Q _ _
      unfold pX3_step_104s pX3_step_147
      refine t0 (fin _ (kb _) (k2 _) (k3 _) ?_)
      rw [st_at]
      unfold enT enX
      rw [if_pos z]
    · have hlt : bgT B l c < l := by
        rcases Nat.lt_or_ge (bgT B l c) l with y | y
        · exact y
        · exact absurd (srC_0.mpr y) z
      have lp : srC B l (bgT B l c) = 1 ∨ srC B l (bgT B l c) = 2 → ∃ n, pX3_step_104 Q n 1 (st (st σ' 2 0 (nI (srC B l (bgT B l c)))) 4 0 (nI (bgT B l c + 1))) := fun y => ⟨_, L2 _ _ (enT B l c) z hs5 fin (l - (bgT B l c + 1)) (bgT B l c + 1) _ (by omega) (kb _) (k2 _) (k3 _) st_at (enX_r hlt y).symm⟩
      refine b_eq (b := 1) (by omega) (by decide) (fun y => lp (Or.inl y)) (fun y => b_eq' (b := 2) (by omega) (by decide) (fun y2 => lp (Or.inr y2)) (fun y2 => ⟨1, ?_⟩))
      show pX3_step_104s _ Q _ _
      unfold pX3_step_104s pX3_step_147
      refine t0 (fin _ (kb _) (k2 _) (k3 _) ?_)
      rw [st_at]
      unfold enT enX
      rw [if_neg z, if_neg (by omega)]
  have L1 : ∀ d i (σ' : Mx), i + d = l → Bc B l σ' → σ' 3 0 = nI i → rn (fun j => decide (B j = 32)) d i = bgT B l c → pX3_step_8 Q (d + 1) σ' := by
    intro d
    induction d with
    | zero =>
      intro i σ' hi c1 c3 he
      have ei : i = l := by omega
      subst ei
      rw [rn] at he
      show pX3_step_8s _ Q _
      unfold pX3_step_8s
      rw [c1.1, c3]
      exact b_le (by omega) (by omega) (fun _ => L46 σ' c1 (by rw [← he]; exact c3)) (fun z => by omega)
    | succ d ih =>
      intro i σ' hi c1 c3 he
      have h256 := hB.2 i (by omega)
      show pX3_step_8s (pX3_step_8 Q (d + 1)) Q _
      unfold pX3_step_8s
      rw [c1.1, c3, nI_clamp (by omega), c1.2 i (by omega), nI_1]
      refine b_le (by omega) (by omega) (fun z => by omega) (fun _ => ⟨vp_in_nI (by omega) (by decide), b_eq' (b := 32) (by omega) (by decide) (fun z => ?_) (fun z => ?_)⟩)
      · rw [rn, if_pos (decide_eq_true z)] at he
        exact ih (i + 1) _ (by omega) (c1.st (by decide)) st_at he
      · rw [rn, if_neg (by rw [decide_eq_true_iff]; exact z)] at he
        exact L46 σ' c1 (by rw [← he]; exact c3)
  exact ⟨_, L1 (l - c) c _ (by omega) (hb.st (by decide)) (by rw [st_at, h4]) rfl⟩
theorem c_step (hB : TB B l) (hc : c ≤ l) (hs : Ct B l c σ) {Q : Mx → Prop} (h : ∀ σ', Ct B l (enT B l c) σ' → Q σ') : pX3_step σ Q := c_step0 hB hs.1 hs.2.2.2 (en_le hc) h
/-- the reference's tape -/
def Bm (B : Nat → Nat) (l : Nat) (τ : Mx) : Prop := τ 7 0 = nI l ∧ ∀ j, j < l → τ 6 j = nI (B j)
def mS (s : Nat) : Nat := if s = 4 then 3 else s
def Mt (B : Nat → Nat) (l c : Nat) (τ : Mx) : Prop := τ 8 0 = nI (bgT B l c) ∧ τ 9 0 = nI (enT B l c) ∧ τ 10 0 = nI (mS (soT B l c)) ∧ τ 11 0 = nI (if soT B l c = 2 then vaT B l c else 0)
def Ft (τ τ' : Mx) : Prop := ∀ f, f < 8 ∨ 11 < f → τ' f = τ f
theorem Ft.rfl : Ft τ τ := fun _ _ => Eq.refl _
theorem Ft.st {τ τ' : Mx} (h : Ft τ τ') {f j : Nat} {x : Int32} (h1 : 8 ≤ f) (h2 : f ≤ 11) : Ft τ (st τ' f j x) := by
  intro g hg
  rw [st_nf (by omega)]
  exact h g hg
theorem Ft.bm {τ τ' : Mx} (h : Ft τ τ') (hb : Bm B l τ) : Bm B l τ' := by
  unfold Bm
  rw [h 7 (by omega), h 6 (by omega)]
  exact hb
theorem m_byte (hl : l ≤ 120) (hb : Bm B l τ) {i : Nat} (hi : i ≤ l) {Q : Int32 → Prop} (h1 : i < l → Q (nI (B i))) (h0 : i = l → Q (-1)) : pX5_byteAt τ (nI i) Q := by
  unfold pX5_byteAt pX5_byteAt_18
  rw [hb.1]
  refine b_le (by omega) (by omega) (fun z => h0 (by omega)) (fun z => ⟨vp_in_nI (by omega) (by decide), ?_⟩)
  rw [nI_clamp (by omega), hb.2 i z]
  exact h1 z
theorem m_wi {a lo hi : Nat} (ha : a < 2 ^ 31) (hl : lo < 2 ^ 31) (hh : hi < 2 ^ 31) {Q : Int32 → Prop} (h1 : lo ≤ a → a ≤ hi → Q 1) (h0 : ¬ (lo ≤ a ∧ a ≤ hi) → Q 0) : pX5_within (nI a) (nI lo) (nI hi) Q := by
  refine m_within (fun y z => h1 ?_ ?_) (fun y => h0 ?_)
  · rcases Nat.lt_or_ge a lo with q | q
    · exact absurd ((nI_ltI ha hl).mpr q) y
    · exact q
  · rcases Nat.lt_or_ge hi a with q | q
    · exact absurd ((nI_ltI hh ha).mpr q) z
    · exact q
  · rcases y with y | y
    · have := (nI_ltI ha hl).mp y
      omega
    · have := (nI_ltI hh ha).mp y
      omega
theorem vfI {v b : Nat} (hv : v ≤ 10000) (h1 : 48 ≤ b) (h2 : b ≤ 57) : (10 * nI v + nI b) - 48 = nI (10 * v + (b - 48)) := by
  have e1 : (10 : Int32) * nI v = nI (10 * v) := pk_mul 10 v
  have e2 : nI (10 * v + b) - 48 = nI (10 * v + b - 48) := pk_sub (b := 48) (by omega)
  rw [e1, nI_add, e2]
  congr 1
  omega
theorem m_token0 (hB : TB B l) (hb : Bm B l τ) (h9 : τ 9 0 = nI c) (hc : c ≤ l) {Q : Mx → Prop} (h : ∀ τ', Ft τ τ' → Mt B l c τ' → Q τ') : pX5_token τ Q := by
  have hl := hB.1
  have hbl := bg_le (B := B) hc
  have W : soT B l c = 1 → ∀ d i (τ' : Mx), i + d = l → Ft τ τ' → τ' 8 0 = nI (bgT B l c) → τ' 9 0 = nI i → τ' 10 0 = 1 → τ' 11 0 = 0 → rn (fun j => decide (srC B l j = 1)) d i = enT B l c → pX5_token_84 Q (d + 1) τ' := by
    intro hs d
    have fin : ∀ τ', Ft τ τ' → τ' 8 0 = nI (bgT B l c) → τ' 9 0 = nI (enT B l c) → τ' 10 0 = 1 → τ' 11 0 = 0 → Q τ' := by
      intro τ' a0 a1 a2 a3 a4
      refine h τ' a0 ⟨a1, a2, ?_, ?_⟩
      · rw [hs]; exact a3
      · rw [if_neg (by omega)]; exact a4
    induction d with
    | zero =>
      intro i τ' hi c0 c1 c2 c3 c4 he
      have ei : i = l := by omega
      subst ei
      rw [rn] at he
      show pX5_token_84s _ Q _
      unfold pX5_token_84s pX5_token_206
      rw [c2]
      refine m_byte hl (c0.bm hb) (Nat.le_refl _) (fun z => by omega) (fun _ => m_within (fun z _ => absurd (by decide) z) (fun _ => t0 (fin τ' c0 c1 (by rw [← he]; exact c2) c3 c4)))
    | succ d ih =>
      intro i τ' hi c0 c1 c2 c3 c4 he
      have h256 := hB.2 i (by omega)
      show pX5_token_84s (pX5_token_84 Q (d + 1)) Q _
      unfold pX5_token_84s pX5_token_206
      rw [c2, nI_1]
      refine m_byte hl (c0.bm hb) (by omega) (fun _ => m_wi (lo := 97) (hi := 122) (by omega) (by decide) (by decide) (fun z1 z2 => t1 ?_) (fun z => t0 ?_)) (fun z => by omega)
      · rw [rn, if_pos (decide_eq_true ((srC_1 (by omega)).mpr ⟨z1, z2⟩))] at he
        exact ih (i + 1) _ (by omega) (c0.st (by decide) (by decide)) (by rw [st_nf (by decide)]; exact c1) st_at (by rw [st_nf (by decide)]; exact c3) (by rw [st_nf (by decide)]; exact c4) he
      · rw [rn, if_neg (by rw [decide_eq_true_iff]; exact fun y => z ((srC_1 (by omega)).mp y))] at he
        exact fin τ' c0 c1 (by rw [← he]; exact c2) c3 c4
  have N : soT B l c = 2 → ∀ d i (τ' : Mx), i + d = l → bgT B l c ≤ i → Ft τ τ' → τ' 8 0 = nI (bgT B l c) → τ' 9 0 = nI i → τ' 10 0 = 2 → τ' 11 0 = nI (vf B (bgT B l c) (i - bgT B l c)) → rn (fun j => decide (srC B l j = 2)) d i = enT B l c → pX5_token_131 Q (d + 1) τ' := by
    intro hs d
    have fin : ∀ τ', Ft τ τ' → τ' 8 0 = nI (bgT B l c) → τ' 9 0 = nI (enT B l c) → τ' 10 0 = 2 → τ' 11 0 = nI (vaT B l c) → Q τ' := by
      intro τ' a0 a1 a2 a3 a4
      refine h τ' a0 ⟨a1, a2, ?_, ?_⟩
      · rw [hs]; exact a3
      · rw [if_pos hs]; exact a4
    induction d with
    | zero =>
      intro i τ' hi hbi c0 c1 c2 c3 c4 he
      have ei : i = l := by omega
      subst ei
      rw [rn] at he
      show pX5_token_131s _ Q _
      unfold pX5_token_131s pX5_token_206
      rw [c2]
      refine m_byte hl (c0.bm hb) (Nat.le_refl _) (fun z => by omega) (fun _ => m_within (fun z _ => absurd (by decide) z) (fun _ => t0 (fin τ' c0 c1 (by rw [← he]; exact c2) c3 ?_)))
      unfold vaT
      rw [← he]
      exact c4
    | succ d ih =>
      intro i τ' hi hbi c0 c1 c2 c3 c4 he
      have h256 := hB.2 i (by omega)
      show pX5_token_131s (pX5_token_131 Q (d + 1)) Q _
      unfold pX5_token_131s pX5_token_206
      have k9 : ∀ y, (st τ' 11 0 y) 9 0 = nI i := fun y => by rw [st_nf (by decide)]; exact c2
      rw [c2, c4]
      refine m_byte hl (c0.bm hb) (by omega) (fun _ => m_wi (lo := 48) (hi := 57) (by omega) (by decide) (by decide) (fun z1 z2 => t1 (m_byte hl (c0.bm hb) (by omega) (fun _ => ?_) (fun z => by omega))) (fun z => t0 ?_)) (fun z => by omega)
      · intro v ev
        rw [rn, if_pos (decide_eq_true ((srC_2 (by omega)).mpr ⟨z1, z2⟩))] at he
        have hvf := vf_le (B := B) (b := bgT B l c) (i - bgT B l c)
        have ev2 : v = nI (vf B (bgT B l c) (i + 1 - bgT B l c)) := by
          rw [ev, vfI hvf z1 z2, show i + 1 - bgT B l c = (i - bgT B l c) + 1 by omega, vf, show bgT B l c + (i - bgT B l c) = i by omega]
          have e4 : ∀ X : Nat, X < 2 ^ 31 → (if nI X < 10000 then nI X else 10000) = nI (if 10000 < X then 10000 else X) := by
            intro X hX
            have e5 : nI X < 10000 ↔ X < 10000 := nI_ltI (b := 10000) hX (by decide)
            by_cases y : X < 10000
            · rw [if_pos (e5.mpr y), if_neg (by omega)]
            · rw [if_neg (fun q => y (e5.mp q))]
              by_cases y2 : 10000 < X
              · rw [if_pos y2]; rfl
              · rw [if_neg y2, show X = 10000 by omega]; rfl
          exact e4 _ (by omega)
        rw [k9, nI_1]
        exact ih (i + 1) _ (by omega) (by omega) ((c0.st (by decide) (by decide)).st (by decide) (by decide)) (by rw [st_nf (by decide), st_nf (by decide)]; exact c1) st_at (by rw [st_nf (by decide), st_nf (by decide)]; exact c3) (by rw [st_nf (by decide), st_at, ev2]) he
      · rw [rn, if_neg (by rw [decide_eq_true_iff]; exact fun y => z ((srC_2 (by omega)).mp y))] at he
        refine fin τ' c0 c1 (by rw [← he]; exact c2) c3 ?_
        unfold vaT
        rw [← he]
        exact c4
  have L1 : ∀ d i (τ' : Mx), i + d = l → Ft τ τ' → τ' 8 0 = nI i → rn (fun j => decide (B j = 32)) d i = bgT B l c → pX5_token_8 Q (d + 1) τ' := by
    intro d
    induction d with
    | zero =>
      intro i τ' hi c0 c1 he
      have ei : i = l := by omega
      subst ei
      rw [rn] at he
      show pX5_token_8s _ Q _
      unfold pX5_token_8s pX5_token_206
      rw [c1]
      have hs : soT B i c = 0 := so_0.mpr (by omega)
      have ee : enT B i c = i := by
        unfold enT enX
        unfold soT at hs
        rw [if_pos hs]
        exact he.symm
      refine m_byte hl (c0.bm hb) (Nat.le_refl _) (fun z => by omega) (fun _ => ⟨fun _ => m_byte hl (c0.bm hb) (Nat.le_refl _) (fun z => by omega) (fun _ => ⟨fun z => absurd z (by decide), fun _ => h _ (((c0.st (by decide) (by decide)).st (by decide) (by decide)).st (by decide) (by decide)) ⟨?_, ?_, ?_, ?_⟩⟩), fun z => absurd z (by decide)⟩)
      · rw [st_nf (by decide), st_nf (by decide), st_nf (by decide), c1]
        exact congrArg nI he
      · rw [st_nf (by decide), st_nf (by decide), st_at, ee]
      · rw [st_at, hs]
        rfl
      · rw [st_nf (by decide), st_at, if_neg (by omega)]
        rfl
    | succ d ih =>
      intro i τ' hi c0 c1 he
      have h256 := hB.2 i (by omega)
      show pX5_token_8s (pX5_token_8 Q (d + 1)) Q _
      unfold pX5_token_8s pX5_token_206
      rw [c1]
      refine m_byte hl (c0.bm hb) (by omega) (fun _ => b_eq' (b := 32) (by omega) (by decide) (fun z => ?_) (fun z => ?_)) (fun z => by omega)
      · rw [rn, if_pos (decide_eq_true z)] at he
        rw [nI_1]
        exact ih (i + 1) _ (by omega) (c0.st (by decide) (by decide)) st_at he
      · rw [rn, if_neg (by rw [decide_eq_true_iff]; exact z)] at he
        have k8 : ∀ x y w, (st (st (st τ' 9 0 x) 11 0 y) 10 0 w) 8 0 = nI i := fun x y w => by rw [st_nf (by decide), st_nf (by decide), st_nf (by decide), c1]
        have k9 : ∀ x y w, (st (st (st τ' 9 0 x) 11 0 y) 10 0 w) 9 0 = x := fun x y w => by rw [st_nf (by decide), st_nf (by decide), st_at]
        have k11 : ∀ x y w, (st (st (st τ' 9 0 x) 11 0 y) 10 0 w) 11 0 = y := fun x y w => by rw [st_nf (by decide), st_at]
        have kf : ∀ x y w, Ft τ (st (st (st τ' 9 0 x) 11 0 y) 10 0 w) := fun x y w => ((c0.st (by decide) (by decide)).st (by decide) (by decide)).st (by decide) (by decide)
        refine m_byte hl (c0.bm hb) (by omega) (fun _ => ⟨fun _ => m_wi (lo := 97) (hi := 122) (by omega) (by decide) (by decide) (fun z1 z2 => t1 ?_) (fun z1 => t0 (m_wi (lo := 48) (hi := 57) (by omega) (by decide) (by decide) (fun z2 z3 => t1 ?_) (fun z2 => t0 ?_))), fun y => absurd (nI_pos' (by omega)) y⟩) (fun z => by omega)
        · have hs : srC B l i = 1 := (srC_1 (by omega)).mpr ⟨z1, z2⟩
          have hs' : soT B l c = 1 := by unfold soT; rw [← he]; exact hs
          refine ⟨_, W hs' (d + 1) i _ (by omega) (kf _ _ _) (by rw [k8, he]) (k9 _ _ _) st_at (k11 _ _ _) ?_⟩
          unfold enT enX
          rw [← he, if_neg (by omega), if_pos (Or.inl hs), hs, show l - i = d + 1 by omega]
        · have hs : srC B l i = 2 := (srC_2 (by omega)).mpr ⟨z2, z3⟩
          have hs' : soT B l c = 2 := by unfold soT; rw [← he]; exact hs
          refine ⟨_, N hs' (d + 1) i _ (by omega) (by omega) (kf _ _ _) (by rw [k8, he]) (k9 _ _ _) st_at (by rw [k11, ← he, Nat.sub_self]; rfl) ?_⟩
          unfold enT enX
          rw [← he, if_neg (by omega), if_pos (Or.inr hs), hs, show l - i = d + 1 by omega]
        · have hs1 : srC B l i ≠ 1 := fun y => z1 ((srC_1 (by omega)).mp y)
          have hs2 : srC B l i ≠ 2 := fun y => z2 ((srC_2 (by omega)).mp y)
          have hs0 : srC B l i ≠ 0 := fun y => by have := srC_0.mp y; omega
          have hs5 := srC_lt (B := B) (l := l) (i := i)
          refine h _ ((kf _ _ _).st (by decide) (by decide)) ⟨?_, ?_, ?_, ?_⟩
          · rw [st_nf (by decide), k8, he]
          · rw [st_at, k9, nI_1]
            unfold enT enX
            rw [← he, if_neg hs0, if_neg (by omega)]
          · rw [st_nf (by decide), st_at]
            unfold soT mS
            rw [← he]
            by_cases y : srC B l i = 4
            · rw [if_pos y]; rfl
            · rw [if_neg y, show srC B l i = 3 by omega]; rfl
          · rw [st_nf (by decide), k11]
            unfold soT
            rw [← he, if_neg hs2]; rfl
  exact ⟨_, L1 (l - c) c _ (by omega) (Ft.rfl.st (by decide) (by decide)) (by rw [st_at, h9]) rfl⟩
end Token
