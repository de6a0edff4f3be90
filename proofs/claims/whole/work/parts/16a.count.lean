/-! THE PURE PART. A county as natural numbers M: 0 kind, 1 left, 2 right, 3 want + 1, 4 row, 5 swaps, 6 spots + 1, 7 turned (0, 1), 8 0 how many, 9 0 year, 10 0 z -/
abbrev Nx : Type := Nat → Nat → Nat
def tb (M : Nx) : Nat → Nat
  | 0 => 0
  | k + 1 => tb M k + M 7 k * 2 ^ k
def Wf (M : Nx) : Prop :=
  M 8 0 ≤ 8 ∧ M 9 0 ≤ 99999 ∧ M 10 0 < 2 ^ 32 ∧ (∀ p, p < M 8 0 → M 0 p < 7 ∧ M 1 p < 10 ∧ M 2 p < 10 ∧ M 3 p ≤ 8 ∧ M 7 p ≤ 1 ∧ M 4 p < M 8 0) ∧ (∀ p, p < M 8 0 → ∃ i, i < M 8 0 ∧ M 4 i = p) ∧ (∀ i, i < 6 → ∃ a b, a < 8 ∧ b < 8 ∧ M 5 i = 10 * a + b) ∧ (∀ i, i < 10 → M 6 i ≤ M 8 0)
def Rc (M : Nx) (σ : Mx) : Prop :=
  σ 8 0 = nI (M 8 0) ∧ σ 9 0 = nI (M 9 0) ∧ σ 10 0 = nI (M 10 0) ∧ (∀ p, p < M 8 0 → σ 0 p = nI (M 0 p) ∧ σ 1 p = nI (M 1 p) ∧ σ 2 p = nI (M 2 p) ∧ σ 3 p = nI (M 3 p) - 1 ∧ σ 4 p = nI (M 4 p)) ∧ (∀ i, i < 6 → σ 5 i = nI (M 5 i)) ∧ (∀ i, i < 10 → σ 6 i = nI (M 6 i) - 1) ∧ σ 7 0 = nI (tb M (M 8 0))
def Rm (M : Nx) (w : Nat → Int32) : Prop :=
  w 0 = nI (M 9 0) ∧ w 1 = nI (M 8 0) ∧ w 2 = nI (M 10 0) ∧ (∀ i, i < 6 → w (3 + i) = nI (M 5 i)) ∧ (∀ i, i < 10 → w (9 + i) = nI (M 6 i) - 1) ∧ (∀ p, p < M 8 0 → w (19 + 5 * p) = nI (M 0 p) ∧ w (19 + 5 * p + 1) = nI (M 1 p) ∧ w (19 + 5 * p + 2) = nI (M 2 p) ∧ w (19 + 5 * p + 3) = nI (M 3 p) - 1 ∧ w (19 + 5 * p + 4) = nI (M 7 p)) ∧ (∀ i, i < M 8 0 → w (59 + i) = nI (M 4 i))
/-- how far two numbers are apart -/
def dst (a b : Nat) : Nat := if a < b then b - a else a - b
def slN (M : Nx) (p : Nat) : Nat := if M 7 p = 0 then M 1 p else M 2 p
def srN (M : Nx) (p : Nat) : Nat := if M 7 p = 0 then M 2 p else M 1 p
def gapK (k pl fm sk y : Nat) : Nat := if k = 1 then fm else if k = 2 then sk else if k = 3 then sk / 2 else if k = 4 then sk / 2 + y % 3 else if k = 5 then (if 0 < pl then 1 else 0) else if k = 6 then fm + 2 else pl
def gapN (M : Nx) (a b : Nat) : Nat :=
  gapK (M 0 a) (dst (srN M a) (slN M b)) (if M 3 a = b + 1 then 0 else dst (srN M a) (slN M b)) (if 2 ≤ M 0 b ∧ M 0 b ≤ 4 then 0 else dst (srN M a) (slN M b) + 1) (M 9 0)
def edgeK (k e : Nat) : Nat := if k = 2 then e / 2 else if k = 3 then e / 2 else if k = 4 then e / 2 + 1 else if k = 5 then 9 - e else if k = 6 then 0 else e
def edgeN (M : Nx) (p s : Nat) : Nat := edgeK (M 0 p) (if s = 0 then slN M p else srN M p)
def growK (k : Nat) : Nat := if k = 1 then 0 else if k = 2 then 3 else if k = 3 then 4 else if k = 4 then 8 else if k = 5 then 0 else if k = 6 then 0 else 1
/-- the GAPS of the first k + 1 places -/
def gapsN (M : Nx) : Nat → Nat
  | 0 => 0
  | k + 1 => gapsN M k + gapN M (M 4 k) (M 4 (k + 1))
def sumN (M : Nx) : Nat := if M 8 0 = 0 then 0 else edgeN M (M 4 0) 0 + edgeN M (M 4 (M 8 0 - 1)) 1 + gapsN M (M 8 0 - 1)
section Pure
variable {M : Nx} {σ : Mx} {w : Nat → Int32}
theorem tb_lt (h : ∀ p, p < M 8 0 → M 7 p ≤ 1) : ∀ k, k ≤ M 8 0 → tb M k < 2 ^ k
  | 0, _ => by simp [tb]
  | k + 1, hk => by
    have h1 := tb_lt h k (by omega)
    have h2 := h k (by omega)
    have h3 : M 7 k = 0 ∨ M 7 k = 1 := by omega
    rw [tb, Nat.pow_succ]
    rcases h3 with e | e <;> rw [e] <;> omega
theorem tb_bit (h : ∀ p, p < M 8 0 → M 7 p ≤ 1) {p : Nat} : ∀ k, k ≤ M 8 0 → p < k → tb M k / 2 ^ p % 2 = M 7 p
  | 0, _, hp => absurd hp (Nat.not_lt_zero p)
  | k + 1, hk, hp => by
    have h1 := tb_lt h k (by omega)
    have h2 := h k (by omega)
    by_cases e : p = k
    · subst e
      rw [tb, Nat.add_mul_div_right _ _ (Nat.two_pow_pos p), Nat.div_eq_of_lt h1, Nat.zero_add]
      exact Nat.mod_eq_of_lt (by omega)
    · have hlt : p < k := by omega
      have ih := tb_bit h k (by omega) hlt
      have e1 : M 7 k * 2 ^ k = (M 7 k * 2 ^ (k - p - 1) * 2) * 2 ^ p := by
        rw [Nat.mul_assoc, Nat.mul_assoc, ← Nat.pow_succ', ← Nat.pow_add]
        congr 2
        omega
      rw [tb, e1, Nat.add_mul_div_right _ _ (Nat.two_pow_pos p), ← ih]
      omega
theorem Wf.tle (hw : Wf M) : ∀ p, p < M 8 0 → M 7 p ≤ 1 := fun p hp => (hw.2.2.2.1 p hp).2.2.2.2.1
theorem Wf.t256 (hw : Wf M) : tb M (M 8 0) < 256 := Nat.lt_of_lt_of_le (tb_lt hw.tle _ (Nat.le_refl _)) (Nat.le_trans (Nat.pow_le_pow_right (by decide) hw.1) (by decide))
theorem sh8 : ∀ p, p < 8 → ((nI p &&& 31).toBitVec.smod 32).toNat = p := by decide +kernel
theorem bitN {t p : Nat} (ht : t < 2 ^ 31) (hp : p < 8) : ((nI t >>> (nI p &&& 31)) &&& 1) = nI (t / 2 ^ p % 2) := by
  rw [pk_shrN ht _ p (sh8 p hp), pk_andN (Nat.lt_of_le_of_lt (Nat.div_le_self _ _) (by omega)) 1 (by decide), Nat.pow_one]
theorem c_bit (hw : Wf M) (hr : Rc M σ) {p : Nat} (hp : p < M 8 0) : (((σ 7 0) >>> (nI p &&& 31)) &&& 1) = nI (M 7 p) := by
  have h8 := hw.1
  have ht := hw.t256
  rw [hr.2.2.2.2.2.2, bitN (by omega) (by omega), tb_bit hw.tle _ (Nat.le_refl _) hp]
theorem c_sl (hw : Wf M) (hr : Rc M σ) {p : Nat} (hp : p < M 8 0) {Q : Int32 → Prop} (h : Q (nI (slN M p))) : pX1_shownLeft σ (nI p) Q := by
  have hb := c_bit hw hr hp
  have h8 := hw.1
  have hc := hr.2.2.2.1 p hp
  have h7 := hw.tle p hp
  unfold pX1_shownLeft pX1_shownLeft_26
  rw [hb, nI_clamp (by omega), hc.2.1, hc.2.2.1]
  have hv : vp_in (nI p) 8 := vp_in_nI (by omega) (by decide)
  unfold slN at h
  by_cases e : M 7 p = 0
  · rw [if_pos e] at h
    exact ⟨fun c => absurd (by rw [e]; rfl) c, fun _ => ⟨hv, h⟩⟩
  · rw [if_neg e] at h
    exact ⟨fun _ => ⟨hv, h⟩, fun c => absurd c (nI_ne0 (by omega) (by omega))⟩
theorem c_sr (hw : Wf M) (hr : Rc M σ) {p : Nat} (hp : p < M 8 0) {Q : Int32 → Prop} (h : Q (nI (srN M p))) : pX1_shownRight σ (nI p) Q := by
  have hb := c_bit hw hr hp
  have h8 := hw.1
  have hc := hr.2.2.2.1 p hp
  have h7 := hw.tle p hp
  unfold pX1_shownRight pX1_shownRight_26
  rw [hb, nI_clamp (by omega), hc.2.1, hc.2.2.1]
  have hv : vp_in (nI p) 8 := vp_in_nI (by omega) (by decide)
  unfold srN at h
  by_cases e : M 7 p = 0
  · rw [if_pos e] at h
    exact ⟨fun c => absurd (by rw [e]; rfl) c, fun _ => ⟨hv, h⟩⟩
  · rw [if_neg e] at h
    exact ⟨fun _ => ⟨hv, h⟩, fun c => absurd c (nI_ne0 (by omega) (by omega))⟩
theorem slN_lt (hw : Wf M) {p : Nat} (hp : p < M 8 0) : slN M p < 10 := by
  have h := hw.2.2.2.1 p hp
  unfold slN
  split <;> omega
theorem srN_lt (hw : Wf M) {p : Nat} (hp : p < M 8 0) : srN M p < 10 := by
  have h := hw.2.2.2.1 p hp
  unfold srN
  split <;> omega
theorem absN {a b : Nat} (ha : a < 2 ^ 30) (hb : b < 2 ^ 30) : (if 0 ≤ (nI a - nI b) then (nI a - nI b) else 0 - (nI a - nI b)) = nI (dst a b) := by
  have h := pk_sub_toInt ha hb
  unfold dst
  by_cases e : a < b
  · have h1 : ¬ (0 : Int32) ≤ nI a - nI b := by
      rw [Int32.le_iff_toInt_le, h, Int32.toInt_zero]
      omega
    rw [if_neg h1, if_pos e]
    have e2 : (0 : Int32) - (nI a - nI b) = nI b - nI a := by
      rw [Int32.sub_eq_add_neg, Int32.neg_sub, Int32.zero_add]
    rw [e2, pk_sub (by omega)]
  · have h1 : (0 : Int32) ≤ nI a - nI b := by
      rw [Int32.le_iff_toInt_le, h, Int32.toInt_zero]
      omega
    rw [if_pos h1, if_neg e, pk_sub (by omega)]
/-- a switch over a number -/
theorem nI_is {a b : Nat} (ha : a < 2 ^ 31) (hb : b < 2 ^ 31) : nI a = nI b ↔ a = b := nI_eq ha hb
theorem m1_eq {a b : Nat} (ha : a < 2 ^ 30) (hb : b < 2 ^ 30) : nI a - 1 = nI b ↔ a = b + 1 := by
  constructor
  · intro h
    have h1 := congrArg Int32.toInt h
    have h2 := pk_sub_toInt (a := a) (b := 1) ha (by decide)
    have h3 : (nI a - 1).toInt = (a : Int) - 1 := h2
    rw [h3, nI_toInt (by omega)] at h1
    omega
  · intro h
    subst h
    exact nI_pred b
end Pure
