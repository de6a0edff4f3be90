/-! THE BEST LAYING: T M O p: what the GAPS and the EDGE behind p add at least, when those of the set O are yet to be laid -/
def mnO (f : Nat → Nat) (O : Nat) : Nat → Nat
  | 0 => 1000000
  | q + 1 => if O / 2 ^ q % 2 = 1 then (if f q < mnO f O q then f q else mnO f O q) else mnO f O q
def baO (f : Nat → Nat) (O : Nat) : Nat → Nat
  | 0 => 0
  | q + 1 => if O / 2 ^ q % 2 = 1 ∧ f q < mnO f O q then q else baO f O q
def lfT (M : Nx) : Nat → Nat → Nat → Nat
  | 0, _, p => edgeN M p 1
  | k + 1, O, p => if O = 0 then edgeN M p 1 else mnO (fun q => gapN M p q + lfT M k (O - 2 ^ q) q) O (M 8 0)
def T (M : Nx) (O p : Nat) : Nat := lfT M O O p
theorem mnO_cg {f g : Nat → Nat} {O : Nat} : ∀ k, (∀ q, q < k → O / 2 ^ q % 2 = 1 → f q = g q) → mnO f O k = mnO g O k
  | 0, _ => rfl
  | k + 1, h => by
    have ih := mnO_cg k (fun q hq hb => h q (by omega) hb)
    rw [mnO, mnO, ih]
    by_cases c : O / 2 ^ k % 2 = 1
    · rw [if_pos c, if_pos c, h k (by omega) c]
    · rw [if_neg c, if_neg c]
theorem mnO_le {f : Nat → Nat} {O q : Nat} (hb : O / 2 ^ q % 2 = 1) : ∀ k, q < k → mnO f O k ≤ f q
  | 0, h => absurd h (by omega)
  | k + 1, h => by
    rw [mnO]
    by_cases e : q = k
    · subst e
      rw [if_pos hb]
      split <;> omega
    · have ih := mnO_le (f := f) hb k (by omega)
      split
      · split <;> omega
      · exact ih
theorem mnO_m {f : Nat → Nat} {O : Nat} : ∀ k, mnO f O k ≤ 1000000
  | 0 => Nat.le_refl _
  | k + 1 => by
    have := mnO_m (f := f) (O := O) k
    rw [mnO]
    split
    · split <;> omega
    · exact this
theorem baO_ok {f : Nat → Nat} {O : Nat} : ∀ k, mnO f O k < 1000000 → baO f O k < k ∧ O / 2 ^ baO f O k % 2 = 1
  | 0, h => absurd h (by simp [mnO])
  | k + 1, h => by
    rw [baO]
    by_cases c : O / 2 ^ k % 2 = 1 ∧ f k < mnO f O k
    · rw [if_pos c]
      exact ⟨by omega, c.1⟩
    · rw [if_neg c]
      have e : mnO f O (k + 1) = mnO f O k := by
        rw [mnO]
        by_cases c1 : O / 2 ^ k % 2 = 1
        · rw [if_pos c1, if_neg (fun y => c ⟨c1, y⟩)]
        · rw [if_neg c1]
      rw [e] at h
      have ih := baO_ok k h
      exact ⟨by omega, ih.2⟩
theorem bit_le {O q : Nat} (h : O / 2 ^ q % 2 = 1) : 2 ^ q ≤ O := by
  rcases Nat.lt_or_ge O (2 ^ q) with c | c
  · rw [Nat.div_eq_of_lt c] at h
    exact absurd h (by decide)
  · exact c
theorem nobit : ∀ k O, O < 2 ^ k → (∀ q, q < k → ¬ O / 2 ^ q % 2 = 1) → O = 0
  | 0, O, h, _ => by
    have e : 2 ^ 0 = 1 := rfl
    omega
  | k + 1, O, h, hb => by
    have hk := hb k (by omega)
    have h2 : 0 < 2 ^ k := Nat.two_pow_pos k
    rw [Nat.pow_succ] at h
    have hd : O / 2 ^ k < 2 := Nat.div_lt_of_lt_mul (by omega)
    have hz : O / 2 ^ k = 0 := by
      generalize O / 2 ^ k = z at hk hd
      omega
    have hl : O < 2 ^ k := by
      rcases Nat.lt_or_ge O (2 ^ k) with c | c
      · exact c
      · have := Nat.div_pos c h2
        omega
    exact nobit k O hl (fun q hq => hb q (by omega))
section Best
variable {M : Nx} {S S' : Nat → Mx} {σ σ2 μ μ' : Mx}
theorem lfT_st : ∀ O k k' p, O ≤ k → O ≤ k' → lfT M k O p = lfT M k' O p := by
  intro O
  induction O using Nat.strongRecOn with
  | _ O ih =>
    intro k k' p hk hk'
    by_cases e : O = 0
    · have e1 : ∀ k, lfT M k O p = edgeN M p 1 := by
        intro k
        cases k with
        | zero => rfl
        | succ k => rw [lfT, if_pos e]
      rw [e1, e1]
    · obtain ⟨a, rfl⟩ : ∃ a, k = a + 1 := ⟨k - 1, by omega⟩
      obtain ⟨b, rfl⟩ : ∃ b, k' = b + 1 := ⟨k' - 1, by omega⟩
      rw [lfT, lfT, if_neg e, if_neg e]
      refine mnO_cg _ (fun q hq hb => ?_)
      have h1 := bit_le hb
      have h2 : 0 < 2 ^ q := Nat.two_pow_pos q
      show gapN M p q + lfT M a (O - 2 ^ q) q = gapN M p q + lfT M b (O - 2 ^ q) q
      rw [ih (O - 2 ^ q) (by omega) a b q (by omega) (by omega)]
theorem T_0 {p : Nat} : T M 0 p = edgeN M p 1 := rfl
theorem T_s {O p : Nat} (h : O ≠ 0) : T M O p = mnO (fun q => gapN M p q + T M (O - 2 ^ q) q) O (M 8 0) := by
  unfold T
  obtain ⟨a, e⟩ : ∃ a, O = a + 1 := ⟨O - 1, by omega⟩
  have e1 : lfT M O O p = lfT M (a + 1) O p := by rw [← e]
  rw [e1, lfT, if_neg h]
  refine mnO_cg _ (fun q hq hb => ?_)
  have h1 := bit_le hb
  have h2 : 0 < 2 ^ q := Nat.two_pow_pos q
  show gapN M p q + lfT M a (O - 2 ^ q) q = gapN M p q + lfT M (O - 2 ^ q) (O - 2 ^ q) q
  rw [lfT_st (O - 2 ^ q) a (O - 2 ^ q) q (by omega) (Nat.le_refl _)]
theorem T_le (hw : Wf M) : ∀ O p, O < 2 ^ (M 8 0) → p < M 8 0 → T M O p ≤ 10 + 12 * O := by
  intro O
  induction O using Nat.strongRecOn with
  | _ O ih =>
    intro p hO hp
    by_cases e : O = 0
    · subst e
      have := edgeN_lt (s := 1) hw hp
      rw [T_0]
      omega
    · rw [T_s e]
      have hex : ∃ q, q < M 8 0 ∧ O / 2 ^ q % 2 = 1 := Classical.byContradiction (fun y => e (nobit (M 8 0) O hO (fun q hq hb => y ⟨q, hq, hb⟩)))
      obtain ⟨q, hq, hb⟩ := hex
      have h1 := bit_le hb
      have h2 : 0 < 2 ^ q := Nat.two_pow_pos q
      have h3 := ih (O - 2 ^ q) (by omega) q (by omega) hq
      have h4 := gapN_lt hw hp hq
      have h5 := mnO_le (f := fun q => gapN M p q + T M (O - 2 ^ q) q) hb (M 8 0) hq
      have h6 : mnO (fun q => gapN M p q + T M (O - 2 ^ q) q) O (M 8 0) ≤ gapN M p q + T M (O - 2 ^ q) q := h5
      omega
theorem T_lt (hw : Wf M) {O p : Nat} (hO : O < 2 ^ (M 8 0)) (hp : p < M 8 0) : T M O p < 4000 := by
  have h := T_le hw O p hO hp
  have h8 := p256 hw.1
  omega
/-- the step to q: from nothing, or from a piece -/
def stp (M : Nx) (b : Option Nat) (q : Nat) : Nat := match b with
  | none => edgeN M q 0
  | some a => gapN M a q
def fO (M : Nx) (b : Option Nat) (O q : Nat) : Nat := stp M b q + T M (O - 2 ^ q) q
def bok (M : Nx) (b : Option Nat) : Prop := match b with
  | none => True
  | some a => a < M 8 0
theorem stp_lt (hw : Wf M) {b : Option Nat} (hb : bok M b) {q : Nat} (hq : q < M 8 0) : stp M b q < 12 := by
  cases b with
  | none => have := edgeN_lt (s := 0) hw hq; show edgeN M q 0 < 12; omega
  | some a => exact gapN_lt hw hb hq
theorem fO_lt (hw : Wf M) {b : Option Nat} (hb : bok M b) {O q : Nat} (hO : O < 2 ^ (M 8 0)) (hq : q < M 8 0) : fO M b O q < 5000 := by
  have h1 := stp_lt hw hb hq
  have h2 := T_lt hw (O := O - 2 ^ q) (p := q) (Nat.lt_of_le_of_lt (Nat.sub_le _ _) hO) hq
  unfold fO
  omega
theorem mnO_b (hw : Wf M) {b : Option Nat} (hb : bok M b) {O : Nat} (hO : O < 2 ^ (M 8 0)) (h0 : O ≠ 0) : mnO (fO M b O) O (M 8 0) < 1000000 := by
  have hex : ∃ q, q < M 8 0 ∧ O / 2 ^ q % 2 = 1 := Classical.byContradiction (fun y => h0 (nobit (M 8 0) O hO (fun q hq hb => y ⟨q, hq, hb⟩)))
  obtain ⟨q, hq, hbq⟩ := hex
  have h5 := mnO_le (f := fO M b O) hbq (M 8 0) hq
  have := fO_lt hw hb hO hq
  omega
theorem bb1 : ∀ L, L < 256 → ∀ q, q < 8 → L / 2 ^ q % 2 = 0 → nI L ||| (1 <<< (nI q &&& 31)) = nI (L + 2 ^ q) := by decide +kernel
theorem bb2 : ∀ L, L < 256 → ∀ q, q < 8 → L / 2 ^ q % 2 = 1 → nI L &&& ((1 <<< (nI q &&& 31)) ^^^ (-1)) = nI (L - 2 ^ q) := by decide +kernel
theorem bb3 : ∀ n, n < 9 → ∀ L, L < 256 → L < 2 ^ n → ∀ q, q < 8 → q < n → (2 ^ n - 1 - L) / 2 ^ q % 2 = 1 - L / 2 ^ q % 2 := by decide +kernel
theorem bb4 {L q : Nat} (h : L / 2 ^ q % 2 = 0) : (L + 2 ^ q) / 2 ^ q % 2 = 1 := by
  rw [Nat.add_div_right _ (Nat.two_pow_pos q)]
  omega
theorem a8 (a b : Nat) : (nI a * 8) + nI b = nI (a * 8 + b) := by
  have e : nI a * (8 : Int32) = nI (a * 8) := pk_mul a 8
  rw [e, nI_add]
/-- what has been weighed -/
def Rl (M : Nx) (σ : Mx) : Prop := (∀ a b, a < M 8 0 → b < M 8 0 → σ 0 (a * 8 + b) = nI (gapN M a b)) ∧ ∀ a, a < M 8 0 → σ 1 a = nI (edgeN M a 0) ∧ σ 2 a = nI (edgeN M a 1)
theorem c_weigh (hw : Wf M) (hc : Rc M σ2) {Q : Mx → Prop} (h : ∀ τ, Rl M τ → Q τ) : pX0_weigh σ σ2 Q := by
  have h8 := hw.1
  have inner : ∀ (ih2 : Int32 → Mx → Prop) (a : Nat), a < M 8 0 → ∀ d b (τ : Mx), b + d = M 8 0 → (∀ a' b', a' < a → b' < M 8 0 → τ 0 (a' * 8 + b') = nI (gapN M a' b')) → (∀ b', b' < b → τ 0 (a * 8 + b') = nI (gapN M a b')) → (∀ a', a' < a + 1 → τ 1 a' = nI (edgeN M a' 0) ∧ τ 2 a' = nI (edgeN M a' 1)) → (∀ τ : Mx, (∀ a' b', a' < a + 1 → b' < M 8 0 → τ 0 (a' * 8 + b') = nI (gapN M a' b')) → (∀ a', a' < a + 1 → τ 1 a' = nI (edgeN M a' 0) ∧ τ 2 a' = nI (edgeN M a' 1)) → ih2 (nI (a + 1)) τ) → pX0_weigh_36 σ2 ih2 Q (d + 1) (nI a) (nI b) τ := by
    intro ih2 a ha d
    induction d with
    | zero =>
      intro b τ hb c1 c2 c3 hq
      have e : b = M 8 0 := by omega
      subst e
      show pX0_weigh_36s σ2 ih2 _ Q _ _ _
      unfold pX0_weigh_36s
      rw [hc.1, nI_1]
      refine b_le (by omega) (by omega) (fun _ => hq τ (fun a' b' h1 h2 => ?_) c3) (fun y => by omega)
      by_cases e : a' = a
      · subst e
        exact c2 b' h2
      · exact c1 a' b' (by omega) h2
    | succ d ih =>
      intro b τ hb c1 c2 c3 hq
      show pX0_weigh_36s σ2 ih2 (pX0_weigh_36 σ2 ih2 Q (d + 1)) Q _ _ _
      unfold pX0_weigh_36s
      rw [hc.1, a8, nI_clamp (show a * 8 + b < 2 ^ 31 by omega), nI_1]
      refine b_le (by omega) (by omega) (fun y => by omega) (fun _ => c_gap hw hc ha (by omega) ⟨vp_in_nI (by omega) (by decide), ?_⟩)
      rw [nI_1]
      refine ih (b + 1) _ (by omega) (fun a' b' h1 h2 => ?_) (fun b' h1 => ?_) (fun a' h1 => ?_) hq
      · rw [st_off (by omega)]
        exact c1 a' b' h1 h2
      · by_cases e : b' = b
        · subst e
          rw [st_at]
        · rw [st_off (by omega)]
          exact c2 b' (by omega)
      · rw [st_nf (by decide), st_nf (by decide)]
        exact c3 a' h1
  have outer : ∀ d a (τ : Mx), a + d = M 8 0 → (∀ a' b', a' < a → b' < M 8 0 → τ 0 (a' * 8 + b') = nI (gapN M a' b')) → (∀ a', a' < a → τ 1 a' = nI (edgeN M a' 0) ∧ τ 2 a' = nI (edgeN M a' 1)) → pX0_weigh_2 σ2 Q (d + 1) (nI a) τ := by
    intro d
    induction d with
    | zero =>
      intro a τ ha c1 c3
      have e : a = M 8 0 := by omega
      subst e
      show pX0_weigh_2s σ2 _ Q _ _
      unfold pX0_weigh_2s
      rw [hc.1]
      exact b_le (by omega) (by omega) (fun _ => h τ ⟨c1, c3⟩) (fun y => by omega)
    | succ d ih =>
      intro a τ ha c1 c3
      show pX0_weigh_2s σ2 (pX0_weigh_2 σ2 Q (d + 1)) Q _ _
      unfold pX0_weigh_2s
      have hv : vp_in (nI a) 8 := vp_in_nI (by omega) (by decide)
      have ha' : a < M 8 0 := by omega
      rw [hc.1, nI_clamp (show a < 2 ^ 31 by omega)]
      refine b_le (by omega) (by omega) (fun y => by omega) (fun _ => c_edge (s := 0) hw hc ha' (by decide) ⟨hv, c_edge (s := 1) hw hc ha' (by decide) ⟨hv, _, inner (pX0_weigh_2 σ2 Q (d + 1)) a ha' (M 8 0) 0 _ (by omega) (fun a' b' h1 h2 => ?_) (fun b' h1 => absurd h1 (by omega)) (fun a' h1 => ?_) (fun τ' q1 q2 => ih (a + 1) τ' (by omega) q1 q2)⟩⟩)
      · rw [st_nf (by decide), st_nf (by decide)]
        exact c1 a' b' h1 h2
      · by_cases e : a' = a
        · subst e
          rw [st_nf (by decide), st_at, st_at]
          exact ⟨rfl, rfl⟩
        · rw [st_nf (f := 2) (g := 1) (by decide), st_off (by omega), st_off (by omega), st_nf (by decide)]
          exact c3 a' (by omega)
  exact ⟨_, outer (M 8 0) 0 σ (by omega) (fun a' b' h1 _ => absurd h1 (by omega)) (fun a' h1 => absurd h1 (by omega))⟩
def allN (M : Nx) : Nat := 2 ^ (M 8 0) - 1
/-- the rests of all sets above L -/
def Rr (M : Nx) (L : Nat) (σ : Mx) : Prop := ∀ L' p, L < L' → L' ≤ allN M → p < M 8 0 → L' / 2 ^ p % 2 = 1 → σ 3 (L' * 8 + p) = nI (T M (allN M - L') p)
theorem all_lt (h8 : M 8 0 ≤ 8) : allN M < 256 ∧ allN M < 2 ^ (M 8 0) := by
  have h1 := p256 h8
  have h2 : 0 < 2 ^ (M 8 0) := Nat.two_pow_pos _
  unfold allN
  omega
theorem all_bit (h8 : M 8 0 ≤ 8) {L q : Nat} (hL : L ≤ allN M) (hq : q < M 8 0) : (allN M - L) / 2 ^ q % 2 = 1 - L / 2 ^ q % 2 := by
  have h1 := all_lt h8
  unfold allN at h1 hL ⊢
  exact bb3 (M 8 0) (by omega) L (by omega) (by omega) q (by omega) hq
theorem c_cost (hw : Wf M) (hl : Rl M σ) {L q : Nat} {b : Option Nat} (hb : bok M b) (hR : Rr M L σ) (hL : L ≤ allN M) (hq : q < M 8 0) (h0 : L / 2 ^ q % 2 = 0) {Q : Int32 → Prop} (h : Q (nI (fO M b (allN M - L) q))) : pX0_costOfNext σ (nI L) (bstI b) (nI q) Q := by
  have h8 := hw.1
  have h1 := all_lt (M := M) h8
  have hbt := all_bit h8 hL hq
  rw [h0] at hbt
  have hle := bit_le hbt
  have hp0 : 0 < 2 ^ q := Nat.two_pow_pos q
  have key : ∀ y, y = stp M b q → pX0_costOfNext_24 σ Q (nI L) (nI q) (nI y) := by
    intro y ey
    unfold pX0_costOfNext_24
    rw [bb1 L (by omega) q (by omega) h0, a8, nI_clamp (by omega), hR (L + 2 ^ q) q (by omega) (by omega) hq (bb4 h0), nI_add, show allN M - (L + 2 ^ q) = allN M - L - 2 ^ q by omega, ey]
    exact ⟨vp_in_nI (by omega) (by decide), h⟩
  unfold pX0_costOfNext
  cases b with
  | none =>
    rw [nI_clamp (show q < 2 ^ 31 by omega), (hl.2 q hq).1]
    exact ⟨fun y => absurd y (by decide), fun _ => ⟨vp_in_nI (by omega) (by decide), key _ rfl⟩⟩
  | some a =>
    have ha : a < M 8 0 := hb
    have e : bstI (some a) = nI a := rfl
    rw [e, a8, nI_clamp (show a * 8 + q < 2 ^ 31 by omega), hl.1 a q ha hq]
    exact ⟨fun _ => ⟨vp_in_nI (by omega) (by decide), key _ rfl⟩, fun y => absurd (nI_pos' (by omega)) y⟩
theorem minI {a b : Nat} (ha : a < 2 ^ 31) (hb : b < 2 ^ 31) : (if nI a < nI b then nI a else nI b) = nI (if a < b then a else b) := by
  by_cases c : a < b
  · rw [if_pos c, if_pos ((nI_ltI ha hb).mpr c)]
  · rw [if_neg c, if_neg (fun z => c ((nI_ltI ha hb).mp z))]
theorem bit01 {L q : Nat} : L / 2 ^ q % 2 = 0 ∨ L / 2 ^ q % 2 = 1 := by omega
theorem c_least (hw : Wf M) (hl : Rl M σ) {L p : Nat} (hp : p < M 8 0) (hR : Rr M L σ) (hL : L ≤ allN M) {Q : Int32 → Prop} (h : Q (nI (mnO (fO M (some p) (allN M - L)) (allN M - L) (M 8 0)))) : pX0_leastRest σ (nI (M 8 0)) (nI L) (nI p) Q := by
  have h8 := hw.1
  have h1 := all_lt (M := M) h8
  have key : ∀ d i, i + d = M 8 0 → pX0_leastRest_7 σ Q (d + 1) (nI (M 8 0)) (nI L) (nI p) (nI (mnO (fO M (some p) (allN M - L)) (allN M - L) i)) (nI i) := by
    intro d
    induction d with
    | zero =>
      intro i hi
      have e : i = M 8 0 := by omega
      subst e
      show pX0_leastRest_7s σ _ Q _ _ _ _ _
      unfold pX0_leastRest_7s
      exact b_le (by omega) (by omega) (fun _ => h) (fun y => by omega)
    | succ d ih =>
      intro i hi
      show pX0_leastRest_7s σ (pX0_leastRest_7 σ Q (d + 1)) Q _ _ _ _ _
      unfold pX0_leastRest_7s pX0_leastRest_37
      have hi' : i < M 8 0 := by omega
      have hn := ih (i + 1) (by omega)
      have hbt := all_bit h8 hL hi'
      have hm := mnO_m (f := fO M (some p) (allN M - L)) (O := allN M - L) i
      have hf := fO_lt hw (b := some p) hp (O := allN M - L) (q := i) (by omega) hi'
      rw [bitN (by omega) (by omega), nI_1]
      refine b_le (by omega) (by omega) (fun y => by omega) (fun _ => b_eq' (b := 0) (by omega) (by decide) (fun y => ?_) (fun y => ?_))
      · refine c_cost hw hl (b := some p) hp hR hL hi' y ?_
        intro v e
        rw [minI (by omega) (by omega)] at e
        rw [mnO, if_pos (by omega)] at hn
        rw [e]
        exact hn
      · rw [mnO, if_neg (by omega)] at hn
        exact hn
  exact ⟨_, key (M 8 0) 0 (by omega)⟩
theorem c_fill (hw : Wf M) (hl : Rl M σ) {Q : Mx → Prop} (h : ∀ τ, Rl M τ → Rr M 0 τ → Q τ) : pX0_fillRests σ (nI (M 8 0)) Q := by
  have h8 := hw.1
  have h1 := all_lt (M := M) h8
  have inner : ∀ (ih8 : Int32 → Int32 → Int32 → Mx → Prop) (L : Nat), 0 < L → L ≤ allN M → ∀ d i (τ : Mx), i + d = M 8 0 → Rl M τ → Rr M L τ → (∀ p, p < i → L / 2 ^ p % 2 = 1 → τ 3 (L * 8 + p) = nI (T M (allN M - L) p)) → (∀ τ : Mx, Rl M τ → Rr M (L - 1) τ → ih8 (nI (M 8 0)) (nI (allN M)) (nI (L - 1)) τ) → pX0_fillRests_15 ih8 Q (d + 1) (nI (M 8 0)) (nI (allN M)) (nI L) (nI i) τ := by
    intro ih8 L hL0 hL d
    induction d with
    | zero =>
      intro i τ hi c1 c2 c3 hq
      have e : i = M 8 0 := by omega
      subst e
      show pX0_fillRests_15s ih8 _ Q _ _ _ _ _
      unfold pX0_fillRests_15s
      have em : nI L + (-1) = nI (L - 1) := by
        have := pk_m1 (L - 1)
        rw [show L - 1 + 1 = L by omega] at this
        exact this
      rw [em]
      refine b_le (by omega) (by omega) (fun _ => hq τ c1 (fun L' p g1 g2 g3 g4 => ?_)) (fun y => by omega)
      by_cases e : L' = L
      · subst e
        exact c3 p g3 g4
      · exact c2 L' p (by omega) g2 g3 g4
    | succ d ih =>
      intro i τ hi c1 c2 c3 hq
      show pX0_fillRests_15s ih8 (pX0_fillRests_15 ih8 Q (d + 1)) Q _ _ _ _ _
      unfold pX0_fillRests_15s pX0_fillRests_65 pX0_fillRests_66
      have hi' : i < M 8 0 := by omega
      rw [bitN (by omega) (by omega), a8, nI_1, nI_clamp (show L * 8 + i < 2 ^ 31 by omega)]
      have hv : vp_in (nI (L * 8 + i)) 2048 := vp_in_nI (by omega) (by decide)
      have nx : ∀ y, y = T M (allN M - L) i → pX0_fillRests_15 ih8 Q (d + 1) (nI (M 8 0)) (nI (allN M)) (nI L) (nI (i + 1)) (st τ 3 (L * 8 + i) (nI y)) := by
        intro y ey
        refine ih (i + 1) _ (by omega) ⟨fun a b ha hb => ?_, fun a ha => ?_⟩ (fun L' p g1 g2 g3 g4 => ?_) (fun p g1 g2 => ?_) hq
        · rw [st_nf (by decide)]
          exact c1.1 a b ha hb
        · rw [st_nf (by decide), st_nf (by decide)]
          exact c1.2 a ha
        · rw [st_off (by omega)]
          exact c2 L' p g1 g2 g3 g4
        · by_cases e : p = i
          · subst e
            rw [st_at, ey]
          · rw [st_off (by omega)]
            exact c3 p (by omega) g2
      refine b_le (by omega) (by omega) (fun y => by omega) (fun _ => b_eq' (b := 1) (by omega) (by decide) (fun y => ?_) (fun y => ?_))
      · refine b_eq' (by omega) (by omega) (fun e => ?_) (fun e => ?_)
        · rw [nI_clamp (show i < 2 ^ 31 by omega), (c1.2 i hi').2]
          exact ⟨vp_in_nI (by omega) (by decide), hv, nx _ (by rw [e, Nat.sub_self, T_0])⟩
        · refine c_least hw c1 hi' c2 hL ⟨hv, nx _ ?_⟩
          rw [T_s (by omega)]
          rfl
      · refine ih (i + 1) τ (by omega) c1 c2 (fun p g1 g2 => ?_) hq
        by_cases e : p = i
        · subst e
          exact absurd g2 y
        · exact c3 p (by omega) g2
  have outer : ∀ L (τ : Mx), L ≤ allN M → Rl M τ → Rr M L τ → pX0_fillRests_8 Q (L + 1) (nI (M 8 0)) (nI (allN M)) (nI L) τ := by
    intro L
    induction L with
    | zero =>
      intro τ hL c1 c2
      show pX0_fillRests_8s _ Q _ _ _ _
      unfold pX0_fillRests_8s
      exact ⟨fun _ => h τ c1 c2, fun y => absurd (by decide) y⟩
    | succ L ih =>
      intro τ hL c1 c2
      show pX0_fillRests_8s (pX0_fillRests_8 Q (L + 1)) Q _ _ _ _
      unfold pX0_fillRests_8s
      exact b_le (b := 0) (by omega) (by decide) (fun y => by omega) (fun _ => ⟨_, inner (pX0_fillRests_8 Q (L + 1)) (L + 1) (by omega) hL (M 8 0) 0 τ (by omega) c1 c2 (fun p g1 _ => absurd g1 (by omega)) (fun τ' q1 q2 => ih τ' (by omega) q1 q2)⟩)
  unfold pX0_fillRests
  intro v e
  have hp0 : 0 < 2 ^ (M 8 0) := Nat.two_pow_pos _
  have e2 : nI (2 ^ (M 8 0)) - 1 = nI (allN M) := pk_sub (b := 1) hp0
  rw [shl1 _ (by omega), e2] at e
  subst e
  exact ⟨_, outer (allN M) σ (Nat.le_refl _) hl (fun L' p g1 g2 _ _ => absurd g1 (by omega))⟩
theorem c_next (hw : Wf M) (hl : Rl M σ) (hR : Rr M 0 σ) {L : Nat} {b : Option Nat} (hb : bok M b) (hL : L ≤ allN M) {Q : Int32 → Prop} (h : Q (nI (baO (fO M b (allN M - L)) (allN M - L) (M 8 0)))) : pX0_bestNext σ (nI (M 8 0)) (nI L) (bstI b) Q := by
  have h8 := hw.1
  have h1 := all_lt (M := M) h8
  have hRL : Rr M L σ := fun L' p g1 g2 g3 g4 => hR L' p (by omega) g2 g3 g4
  have key : ∀ d i, i + d = M 8 0 → pX0_bestNext_10 σ Q (d + 1) (nI (M 8 0)) (nI L) (bstI b) (nI (mnO (fO M b (allN M - L)) (allN M - L) i)) (nI (baO (fO M b (allN M - L)) (allN M - L) i)) (nI i) := by
    intro d
    induction d with
    | zero =>
      intro i hi
      have e : i = M 8 0 := by omega
      subst e
      show pX0_bestNext_10s σ _ Q _ _ _ _ _ _
      unfold pX0_bestNext_10s
      exact b_le (by omega) (by omega) (fun _ => h) (fun y => by omega)
    | succ d ih =>
      intro i hi
      show pX0_bestNext_10s σ (pX0_bestNext_10 σ Q (d + 1)) Q _ _ _ _ _ _
      unfold pX0_bestNext_10s pX0_bestNext_50
      have hi' : i < M 8 0 := by omega
      have hn := ih (i + 1) (by omega)
      have hbt := all_bit h8 hL hi'
      have hm := mnO_m (f := fO M b (allN M - L)) (O := allN M - L) i
      have hf := fO_lt hw hb (O := allN M - L) (q := i) (by omega) hi'
      rw [bitN (by omega) (by omega), nI_1]
      refine b_le (by omega) (by omega) (fun y => by omega) (fun _ => b_eq' (b := 0) (by omega) (by decide) (fun y => ?_) (fun y => ?_))
      · have hb1 : (allN M - L) / 2 ^ i % 2 = 1 := by omega
        refine c_cost hw hl hb hRL hL hi' y (b_le (by omega) (by omega) (fun z => ?_) (fun z => ?_))
        · rw [mnO, baO, if_pos hb1, if_neg (by omega), if_neg (fun q => by omega)] at hn
          exact hn
        · rw [mnO, baO, if_pos hb1, if_pos z, if_pos ⟨hb1, z⟩] at hn
          exact hn
      · rw [mnO, baO, if_neg (by omega), if_neg (fun q => by omega)] at hn
        exact hn
  exact ⟨_, key (M 8 0) 0 (by omega)⟩
def bsN (M : Nx) : Nat := if M 8 0 = 0 then 0 else fO M none (allN M) (baO (fO M none (allN M)) (allN M) (M 8 0))
theorem ba_ok (hw : Wf M) {b : Option Nat} (hb : bok M b) {O : Nat} (hO : O < 2 ^ (M 8 0)) (h0 : O ≠ 0) : baO (fO M b O) O (M 8 0) < M 8 0 ∧ O / 2 ^ (baO (fO M b O) O (M 8 0)) % 2 = 1 := baO_ok _ (mnO_b hw hb hO h0)
theorem all_ne (h : M 8 0 ≠ 0) : allN M ≠ 0 := by
  unfold allN
  have : 2 ^ 1 ≤ 2 ^ (M 8 0) := Nat.pow_le_pow_right (by decide) (by omega)
  omega
theorem bs_lt (hw : Wf M) : bsN M < 5000 := by
  unfold bsN
  have h1 := all_lt (M := M) hw.1
  by_cases e : M 8 0 = 0
  · rw [if_pos e]; decide
  · rw [if_neg e]
    exact fO_lt hw (b := none) trivial h1.2 (ba_ok hw (b := none) trivial h1.2 (all_ne e)).1
theorem c_leastSum (hw : Wf M) (hc : Rc M σ2) {Q : Int32 → Mx → Prop} (h : ∀ τ, Q (nI (bsN M)) τ) : pX0_leastSum σ σ2 Q := by
  have h8 := hw.1
  have h1 := all_lt (M := M) h8
  unfold bsN at h
  unfold pX0_leastSum
  rw [hc.1]
  refine b_eq' (b := 0) (by omega) (by decide) (fun e => ?_) (fun e => c_weigh hw hc (fun τ hl => c_fill hw hl (fun υ hl' hR => ?_)))
  · rw [if_pos e] at h
    exact h σ
  · rw [if_neg e] at h
    obtain ⟨b1, b2⟩ := ba_ok hw (b := none) trivial h1.2 (all_ne e)
    have hz : ∀ q, (0 : Nat) / 2 ^ q % 2 = 0 := fun q => by rw [Nat.zero_div]
    refine c_next hw hl' hR (L := 0) (b := none) trivial (Nat.zero_le _) ?_
    rw [Nat.sub_zero]
    refine c_cost hw hl' (L := 0) (b := none) trivial hR (Nat.zero_le _) b1 (hz _) ?_
    rw [Nat.sub_zero]
    exact h υ
/-- the reference's table -/
def Rt (M : Nx) (μ : Mx) (R : Nat) : Prop := ∀ R' p, R' < R → p < M 8 0 → R' / 2 ^ p % 2 = 1 → μ 5 (8 * R' + p) = nI (T M (R' - 2 ^ p) p)
/-- only the table changes -/
def Fr5 (μ μ' : Mx) : Prop := ∀ f, f ≠ 5 → μ' f = μ f
theorem Fr5.fm (h : Fr5 μ μ') : Fm μ μ' := fun f _ _ c => h f c
theorem Fr5.rfl : Fr5 μ μ := fun _ _ => Eq.refl _
theorem Fr5.tr {a b c : Mx} (h : Fr5 a b) (k : Fr5 b c) : Fr5 a c := fun f hf => (k f hf).trans (h f hf)
theorem Fr5.st {j : Nat} {x : Int32} : Fr5 μ (st μ 5 j x) := fun _ hf => st_nf hf
theorem m_least (hw : Wf M) (hm : Rm M (μ 0)) {R p : Nat} (hp : p < M 8 0) (hR : R ≤ allN M) (hb : R / 2 ^ p % 2 = 1) (ht : Rt M μ R) {Q : Int32 → Prop} (h : Q (nI (T M (R - 2 ^ p) p))) : pX5_leastRest μ (nI R) (nI p) Q := by
  have h8 := hw.1
  have h1 := all_lt (M := M) h8
  have hle := bit_le hb
  have hp0 : 0 < 2 ^ p := Nat.two_pow_pos p
  have hv1 : vp_in 1 67 := v_1 (by decide) (by decide)
  unfold pX5_leastRest
  intro v7 e7
  rw [bb2 R (by omega) p (by omega) hb] at e7
  subst e7
  refine b_eq' (b := 0) (by omega) (by decide) (fun e => ?_) (fun e => ?_)
  · rw [e, T_0] at h
    exact m_edge (s := 1) hw hm hp (by decide) h
  · rw [T_s e] at h
    have key : ∀ d i, i + d = M 8 0 → pX5_leastRest_26 μ Q (d + 1) (nI p) (nI (R - 2 ^ p)) (nI (mnO (fun q => gapN M p q + T M (R - 2 ^ p - 2 ^ q) q) (R - 2 ^ p) i)) (nI i) := by
      intro d
      induction d with
      | zero =>
        intro i hi
        have e : i = M 8 0 := by omega
        subst e
        show pX5_leastRest_26s μ _ Q _ _ _ _
        unfold pX5_leastRest_26s
        rw [m_1, hm.2.1]
        exact ⟨hv1, b_le (by omega) (by omega) (fun _ => h) (fun y => by omega)⟩
      | succ d ih =>
        intro i hi
        show pX5_leastRest_26s μ (pX5_leastRest_26 μ Q (d + 1)) Q _ _ _ _
        unfold pX5_leastRest_26s pX5_leastRest_74
        have hi' : i < M 8 0 := by omega
        have hn := ih (i + 1) (by omega)
        have hmm := mnO_m (f := fun q => gapN M p q + T M (R - 2 ^ p - 2 ^ q) q) (O := R - 2 ^ p) i
        have hg := gapN_lt hw hp hi'
        have hT := T_lt hw (O := R - 2 ^ p - 2 ^ i) (p := i) (Nat.lt_of_le_of_lt (Nat.sub_le _ _) (by omega)) hi'
        rw [m_1, hm.2.1, bitN (by omega) (by omega), eig, nI_1, nI_clamp (show 8 * (R - 2 ^ p) + i < 2 ^ 31 by omega)]
        refine ⟨hv1, b_le (by omega) (by omega) (fun y => by omega) (fun _ => b_eq' (b := 1) (by omega) (by decide) (fun y => ?_) (fun y => ?_))⟩
        · refine m_gap hw hm hp hi' ⟨vp_in_nI (by omega) (by decide), ?_⟩
          intro v e
          rw [ht (R - 2 ^ p) i (by omega) hi' y, nI_add, minI (by omega) (by omega)] at e
          rw [mnO, if_pos y] at hn
          rw [e]
          exact hn
        · rw [mnO, if_neg y] at hn
          exact hn
    exact ⟨_, key (M 8 0) 0 (by omega)⟩
theorem m_table (hw : Wf M) (hm : Rm M (μ 0)) {Q : Mx → Prop} (h : ∀ τ, Fr5 μ τ → Rm M (τ 0) → Rt M τ (allN M + 1) → Q τ) : pX5_isTabled μ Q := by
  have h8 := hw.1
  have h1 := all_lt (M := M) h8
  have hv1 : vp_in 1 67 := v_1 (by decide) (by decide)
  have hp0 : 0 < 2 ^ (M 8 0) := Nat.two_pow_pos _
  have eall : allN M + 1 = 2 ^ (M 8 0) := by unfold allN; omega
  have inner : ∀ (ih2 : Int32 → Mx → Prop) (R : Nat), R ≤ allN M → ∀ d i (τ : Mx), i + d = M 8 0 → Fr5 μ τ → Rt M τ R → (∀ p, p < i → R / 2 ^ p % 2 = 1 → τ 5 (8 * R + p) = nI (T M (R - 2 ^ p) p)) → (∀ τ : Mx, Fr5 μ τ → Rt M τ (R + 1) → ih2 (nI (R + 1)) τ) → pX5_isTabled_16 ih2 Q (d + 1) (nI R) (nI i) τ := by
    intro ih2 R hR d
    induction d with
    | zero =>
      intro i τ hi hf c2 c3 hq
      have e : i = M 8 0 := by omega
      subst e
      show pX5_isTabled_16s ih2 _ Q _ _ _
      unfold pX5_isTabled_16s
      rw [m_1, hf 0 (by decide), hm.2.1, nI_1]
      refine ⟨hv1, b_le (by omega) (by omega) (fun _ => hq τ hf (fun R' p g1 g2 g3 => ?_)) (fun y => by omega)⟩
      by_cases e : R' = R
      · subst e
        exact c3 p g2 g3
      · exact c2 R' p (by omega) g2 g3
    | succ d ih =>
      intro i τ hi hf c2 c3 hq
      show pX5_isTabled_16s ih2 (pX5_isTabled_16 ih2 Q (d + 1)) Q _ _ _
      unfold pX5_isTabled_16s pX5_isTabled_52
      have hi' : i < M 8 0 := by omega
      have hmτ : Rm M (τ 0) := by rw [hf 0 (by decide)]; exact hm
      rw [m_1, hf 0 (by decide), hm.2.1, bitN (by omega) (by omega), eig, nI_1, nI_clamp (show 8 * R + i < 2 ^ 31 by omega)]
      refine ⟨hv1, b_le (by omega) (by omega) (fun y => by omega) (fun _ => b_eq' (b := 1) (by omega) (by decide) (fun y => ?_) (fun y => ?_))⟩
      · refine m_least hw hmτ hi' hR y c2 ⟨vp_in_nI (by omega) (by decide), ?_⟩
        rw [nI_1]
        refine ih (i + 1) _ (by omega) (Fr5.tr hf Fr5.st) (fun R' p g1 g2 g3 => ?_) (fun p g1 g2 => ?_) hq
        · rw [st_off (by omega)]
          exact c2 R' p g1 g2 g3
        · by_cases e : p = i
          · subst e
            rw [st_at]
          · rw [st_off (by omega)]
            exact c3 p (by omega) g2
      · rw [nI_1]
        refine ih (i + 1) τ (by omega) hf c2 (fun p g1 g2 => ?_) hq
        by_cases e : p = i
        · subst e
          exact absurd g2 y
        · exact c3 p (by omega) g2
  have outer : ∀ d R (τ : Mx), R + d = allN M + 1 → Fr5 μ τ → Rt M τ R → pX5_isTabled_2 Q (d + 1) (nI R) τ := by
    intro d
    induction d with
    | zero =>
      intro R τ hR hf c2
      have e : R = allN M + 1 := by omega
      subst e
      show pX5_isTabled_2s _ Q _ _
      unfold pX5_isTabled_2s
      rw [m_1, hf 0 (by decide), hm.2.1, shl1 _ (by omega)]
      exact ⟨hv1, b_le (by omega) (by omega) (fun _ => h τ hf (by rw [hf 0 (by decide)]; exact hm) c2) (fun y => by omega)⟩
    | succ d ih =>
      intro R τ hR hf c2
      show pX5_isTabled_2s (pX5_isTabled_2 Q (d + 1)) Q _ _
      unfold pX5_isTabled_2s
      rw [m_1, hf 0 (by decide), hm.2.1, shl1 _ (by omega)]
      exact ⟨hv1, b_le (by omega) (by omega) (fun y => by omega) (fun _ => ⟨_, inner (pX5_isTabled_2 Q (d + 1)) R (by omega) (M 8 0) 0 τ (by omega) hf c2 (fun p g1 _ => absurd g1 (by omega)) (fun τ' q1 q2 => ih (R + 1) τ' (by omega) q1 q2)⟩)⟩
  have e0 : ∀ R', R' < 1 → R' = 0 := fun R' h => by omega
  refine ⟨_, outer (allN M) 1 μ (by omega) Fr5.rfl (fun R' p g1 g2 g3 => ?_)⟩
  rw [e0 R' g1, Nat.zero_div] at g3
  exact absurd g3 (by decide)
theorem m_next (hw : Wf M) (hm : Rm M (μ 0)) (ht : Rt M μ (allN M + 1)) {O : Nat} {b : Option Nat} (hb : bok M b) (hO : O ≤ allN M) (h0 : O ≠ 0) {Q : Int32 → Prop} (h : Q (nI (baO (fO M b O) O (M 8 0)))) : pX5_bestNext μ (nI O) (bstI b) Q := by
  have h8 := hw.1
  have h1 := all_lt (M := M) h8
  have hv1 : vp_in 1 67 := v_1 (by decide) (by decide)
  have key : ∀ d i (x : Int32), i + d = M 8 0 → ((mnO (fO M b O) O i = 1000000 ∧ x = -1) ∨ x = nI (baO (fO M b O) O i)) → pX5_bestNext_9 μ Q (d + 1) (nI O) (bstI b) x (nI (mnO (fO M b O) O i)) (nI i) := by
    intro d
    induction d with
    | zero =>
      intro i x hi hx
      have e : i = M 8 0 := by omega
      subst e
      show pX5_bestNext_9s μ _ Q _ _ _ _ _
      unfold pX5_bestNext_9s
      rw [m_1, hm.2.1]
      refine ⟨hv1, b_le (by omega) (by omega) (fun _ => ?_) (fun y => by omega)⟩
      rcases hx with ⟨e1, _⟩ | e2
      · have := mnO_b hw hb (O := O) (by omega) h0
        omega
      · rw [e2]
        exact h
    | succ d ih =>
      intro i x hi hx
      show pX5_bestNext_9s μ (pX5_bestNext_9 μ Q (d + 1)) Q _ _ _ _ _
      unfold pX5_bestNext_9s pX5_bestNext_63 pX5_bestNext_80
      have hi' : i < M 8 0 := by omega
      have hmm := mnO_m (f := fO M b O) (O := O) i
      have hf := fO_lt hw hb (O := O) (q := i) (by omega) hi'
      rw [m_1, hm.2.1, bitN (by omega) (by omega), eig, nI_1, nI_clamp (show 8 * O + i < 2 ^ 31 by omega)]
      refine ⟨hv1, b_le (by omega) (by omega) (fun y => by omega) (fun _ => b_eq' (b := 1) (by omega) (by decide) (fun y => ⟨vp_in_nI (by omega) (by decide), ?_⟩) (fun y => ?_))⟩
      · have nx : ∀ v : Int32, v = nI (T M (O - 2 ^ i) i) + nI (stp M b i) → (nI (mnO (fO M b O) O i) ≤ v → pX5_bestNext_9 μ Q (d + 1) (nI O) (bstI b) x (nI (mnO (fO M b O) O i)) (nI (i + 1))) ∧ (¬ nI (mnO (fO M b O) O i) ≤ v → pX5_bestNext_9 μ Q (d + 1) (nI O) (bstI b) (nI i) v (nI (i + 1))) := by
          intro v e
          have e2 : T M (O - 2 ^ i) i + stp M b i = fO M b O i := by unfold fO; omega
          rw [nI_add, e2] at e
          subst e
          refine b_le (by omega) (by omega) (fun z => ?_) (fun z => ?_)
          · have hn := ih (i + 1) x (by omega)
            rw [mnO, baO, if_pos y, if_neg (by omega), if_neg (fun q => by omega)] at hn
            exact hn hx
          · have hn := ih (i + 1) (nI i) (by omega)
            rw [mnO, baO, if_pos y, if_pos z, if_pos ⟨y, z⟩] at hn
            exact hn (Or.inr rfl)
        rw [ht O i (by omega) hi' y]
        cases b with
        | none => exact ⟨fun z => absurd z (by decide), fun _ => m_edge (s := 0) hw hm hi' (by decide) nx⟩
        | some a => exact ⟨fun _ => m_gap hw hm hb hi' nx, fun z => absurd (nI_pos' (by have : a < M 8 0 := hb; omega)) z⟩
      · have hn := ih (i + 1) x (by omega)
        rw [mnO, baO, if_neg y, if_neg (fun q => y q.1)] at hn
        exact hn hx
  exact ⟨_, key (M 8 0) 0 (-1) (by omega) (Or.inl ⟨rfl, rfl⟩)⟩
theorem m_bestSum (hw : Wf M) (hm : Rm M (μ 0)) {Q : Int32 → Mx → Prop} (h : ∀ τ, Fr5 μ τ → Rm M (τ 0) → Q (nI (bsN M)) τ) : pX5_bestSum μ Q := by
  have h8 := hw.1
  have h1 := all_lt (M := M) h8
  unfold bsN at h
  unfold pX5_bestSum
  rw [m_1, hm.2.1]
  refine ⟨v_1 (by decide) (by decide), b_eq' (b := 0) (by omega) (by decide) (fun e => ?_) (fun e => m_table hw hm (fun τ hf hm' ht => ?_))⟩
  · rw [if_pos e] at h
    exact h μ Fr5.rfl hm
  · rw [if_neg e] at h
    obtain ⟨b1, b2⟩ := ba_ok hw (b := none) trivial h1.2 (all_ne e)
    refine m_every hm' h8 (m_next hw hm' ht (O := allN M) (b := none) trivial (Nat.le_refl _) (all_ne e) (m_edge (s := 0) hw hm' b1 (by decide) (m_every hm' h8 ?_)))
    have ea : 2 ^ (M 8 0) - 1 = allN M := rfl
    rw [ea, eig, nI_clamp (by omega), ht _ _ (by omega) b1 b2, nI_add]
    exact ⟨vp_in_nI (by omega) (by decide), h τ hf hm'⟩
theorem ok16 : OK_16 Inv := by
  intro S μ hI
  obtain ⟨M, hw, hc, hm, ho⟩ := hI
  unfold pX4_best
  refine c_leastSum hw hc (fun τ => ?_)
  unfold pX5_best
  exact m_bestSum hw hm (fun υ hf hm' => ⟨rfl, ho.inv hw (by rw [va_up_ne _ _ (by decide)]; exact hc) hm' Fs.u3 hf.fm⟩)
theorem ok10 : OK_10 Inv := by
  intro S μ x1 hI
  have hI' := hI
  obtain ⟨M, hw, hc, hm, ho⟩ := hI'
  have h8 := hw.1
  have hs := sumN_lt hw
  have hbs := bs_lt hw
  unfold pX4_now pX4_now_128
  rcases in_or 8 (by decide) x1 with ⟨w, h, e⟩ | ⟨hx, _⟩
  · subst e
    rw [hc.2.1, hc.2.2.2.2.2.2]
    refine sw8 h (fun z => ?_) (fun z => c_sum hw hc ?_) (fun z => c_closed hw hc ?_) (fun z => c_grs hw hc ?_) (fun z => c_greatest hw hc ?_) (fun z => ?_) (fun z => c_sum hw hc (c_leastSum hw hc (fun τ => ?_))) (fun z => c_lex hw hc (fun S' hT hc' => ?_))
    · unfold pX5_now
      rw [m_0, hm.1]
      exact sw8 h (fun _ => ⟨v_0 (by decide) (by decide), rfl, hI⟩) (fun y => by omega) (fun y => by omega) (fun y => by omega) (fun y => by omega) (fun y => by omega) (fun y => by omega) (fun y => by omega)
    · unfold pX5_now
      exact sw8 h (fun y => by omega) (fun _ => m_sum hw hm ⟨rfl, hI⟩) (fun y => by omega) (fun y => by omega) (fun y => by omega) (fun y => by omega) (fun y => by omega) (fun y => by omega)
    · unfold pX5_now
      exact sw8 h (fun y => by omega) (fun y => by omega) (fun _ => m_closed hw hm ⟨rfl, hI⟩) (fun y => by omega) (fun y => by omega) (fun y => by omega) (fun y => by omega) (fun y => by omega)
    · unfold pX5_now
      exact sw8 h (fun y => by omega) (fun y => by omega) (fun y => by omega) (fun _ => m_grs hw hm ⟨rfl, hI⟩) (fun y => by omega) (fun y => by omega) (fun y => by omega) (fun y => by omega)
    · unfold pX5_now
      exact sw8 h (fun y => by omega) (fun y => by omega) (fun y => by omega) (fun y => by omega) (fun _ => m_widest hw hm ⟨rfl, hI⟩) (fun y => by omega) (fun y => by omega) (fun y => by omega)
    · unfold pX5_now
      exact sw8 h (fun y => by omega) (fun y => by omega) (fun y => by omega) (fun y => by omega) (fun y => by omega) (fun _ => m_turned hw hm ⟨rfl, hI⟩) (fun y => by omega) (fun y => by omega)
    · unfold pX5_now
      refine sw8 h (fun y => by omega) (fun y => by omega) (fun y => by omega) (fun y => by omega) (fun y => by omega) (fun y => by omega) (fun _ => m_sum hw hm (m_bestSum hw hm (fun υ hf hm' => ⟨rfl, ?_⟩))) (fun y => by omega)
      exact ho.inv hw (by rw [va_up_ne _ _ (by decide)]; exact hc) hm' Fs.u3 hf.fm
    · have G : ∀ r : Int32, r = (if 0 ≤ lxC 8 (lxN M) then 0 else 1) → pX5_now μ (nI w) (fun r1 u1 => r = r1 ∧ Inv S' u1) := by
        intro r er
        unfold pX5_now pX5_now_102
        refine sw8 h (fun y => by omega) (fun y => by omega) (fun y => by omega) (fun y => by omega) (fun y => by omega) (fun y => by omega) (fun y => by omega) (fun _ => m_lex hw hm (fun μ' hf hm' => ⟨fun y => ⟨?_, ?_⟩, fun y => ⟨?_, ?_⟩⟩))
        · rw [er, if_pos y]
        · exact ho.inv hw hc' hm' hT.fs hf.fm
        · rw [er, if_neg y]
        · exact ho.inv hw hc' hm' hT.fs hf.fm
      by_cases c : (lxN M).2.1 = 0
      · rw [lxC_n c] at G
        rw [lxC_n c]
        exact ⟨fun y => absurd y (by decide), fun _ => G 1 (by decide)⟩
      · obtain ⟨y1, y2, _⟩ := lxN_y c
        have p1 := nI_pos' (n := 8 * (lxN M).2.2.1 + (lxN M).2.2.2) (by omega)
        have p2 := nI_pos' (n := 10 * (lxN M).2.2.1 + (lxN M).2.2.2) (by omega)
        rw [lxC_y c] at G
        rw [lxC_y c]
        exact ⟨fun _ => G 0 (by rw [if_pos p1]), fun y => absurd p2 y⟩
  · refine sw8o hx (c_found 0 (by decide) rfl ?_)
    unfold pX5_now
    exact sw8o hx (fin hI 0 (by decide) (by decide))
end Best
