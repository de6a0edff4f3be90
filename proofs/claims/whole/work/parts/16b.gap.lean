section Pure
variable {M : Nx} {σ : Mx} {w : Nat → Int32}
theorem gapK_lt {k pl fm sk y : Nat} (h1 : pl < 10) (h2 : fm < 10) (h3 : sk < 11) : gapK k pl fm sk y < 12 := by
  unfold gapK
  repeat' split
  all_goals omega
theorem dst_lt {a b : Nat} (ha : a < 10) (hb : b < 10) : dst a b < 10 := by
  unfold dst
  split <;> omega
theorem gapN_lt (hw : Wf M) {a b : Nat} (ha : a < M 8 0) (hb : b < M 8 0) : gapN M a b < 12 := by
  have h := dst_lt (srN_lt hw ha) (slN_lt hw hb)
  unfold gapN
  refine gapK_lt h ?_ ?_
  · split <;> omega
  · split <;> omega
theorem edgeN_lt (hw : Wf M) {p s : Nat} (hp : p < M 8 0) : edgeN M p s < 10 := by
  have h1 := slN_lt hw hp
  have h2 := srN_lt hw hp
  unfold edgeN edgeK
  repeat' split
  all_goals omega
theorem swK {k : Nat} (hk : k < 7) {r : Int32} (hr : r = nI k) {A1 A2 A3 A4 A5 A6 A0 : Prop} (h1 : k = 1 → A1) (h2 : k = 2 → A2) (h3 : k = 3 → A3) (h4 : k = 4 → A4) (h5 : k = 5 → A5) (h6 : k = 6 → A6) (h0 : k ≠ 1 → k ≠ 2 → k ≠ 3 → k ≠ 4 → k ≠ 5 → k ≠ 6 → A0) :
    (r = 1 → A1) ∧ (r = 2 → A2) ∧ (r = 3 → A3) ∧ (r = 4 → A4) ∧ (r = 5 → A5) ∧ (r = 6 → A6) ∧ (¬ r = 1 → ¬ r = 2 → ¬ r = 3 → ¬ r = 4 → ¬ r = 5 → ¬ r = 6 → A0) := by
  subst hr
  have e : ∀ j : Nat, j < 7 → (nI k = nI j ↔ k = j) := fun j hj => nI_eq (by omega) (by omega)
  refine ⟨fun c => h1 ((e 1 (by omega)).mp c), fun c => h2 ((e 2 (by omega)).mp c), fun c => h3 ((e 3 (by omega)).mp c), fun c => h4 ((e 4 (by omega)).mp c), fun c => h5 ((e 5 (by omega)).mp c), fun c => h6 ((e 6 (by omega)).mp c), fun a1 a2 a3 a4 a5 a6 => h0 (fun z => a1 ((e 1 (by omega)).mpr z)) (fun z => a2 ((e 2 (by omega)).mpr z)) (fun z => a3 ((e 3 (by omega)).mpr z)) (fun z => a4 ((e 4 (by omega)).mpr z)) (fun z => a5 ((e 5 (by omega)).mpr z)) (fun z => a6 ((e 6 (by omega)).mpr z))⟩
theorem swE {k : Nat} (hk : k < 7) {r : Int32} (hr : r = nI k) {A2 A3 A4 A5 A6 A0 : Prop} (h2 : k = 2 → A2) (h3 : k = 3 → A3) (h4 : k = 4 → A4) (h5 : k = 5 → A5) (h6 : k = 6 → A6) (h0 : k ≠ 2 → k ≠ 3 → k ≠ 4 → k ≠ 5 → k ≠ 6 → A0) :
    (r = 2 → A2) ∧ (r = 3 → A3) ∧ (r = 4 → A4) ∧ (r = 5 → A5) ∧ (r = 6 → A6) ∧ (¬ r = 2 → ¬ r = 3 → ¬ r = 4 → ¬ r = 5 → ¬ r = 6 → A0) := by
  subst hr
  have e : ∀ j : Nat, j < 7 → (nI k = nI j ↔ k = j) := fun j hj => nI_eq (by omega) (by omega)
  refine ⟨fun c => h2 ((e 2 (by omega)).mp c), fun c => h3 ((e 3 (by omega)).mp c), fun c => h4 ((e 4 (by omega)).mp c), fun c => h5 ((e 5 (by omega)).mp c), fun c => h6 ((e 6 (by omega)).mp c), fun a2 a3 a4 a5 a6 => h0 (fun z => a2 ((e 2 (by omega)).mpr z)) (fun z => a3 ((e 3 (by omega)).mpr z)) (fun z => a4 ((e 4 (by omega)).mpr z)) (fun z => a5 ((e 5 (by omega)).mpr z)) (fun z => a6 ((e 6 (by omega)).mpr z))⟩
theorem div2 {a : Nat} (h : a < 2 ^ 31) : nI a / 2 = nI (a / 2) := pk_div (d := 2) h (by decide) (by decide)
theorem remL {a : Nat} (d : Nat) {D : Int32} (hD : D = nI d) (h : a < 2 ^ 31) (h0 : 0 < d) (hd : d < 2 ^ 31) : nI a - nI a / D * D = nI (a % d) := by
  subst hD
  exact pk_rem h h0 hd
/-- the switch at a GAP's end -/
theorem gapSw {k pl fm sk y : Nat} (hk : k < 7) (hp : pl < 10) (hf : fm < 10) (hs : sk < 11) (hy : y ≤ 99999) {Q : Int32 → Prop} (h : Q (nI (gapK k pl fm sk y))) :
    (nI k = 1 → Q (nI fm)) ∧ (nI k = 2 → Q (nI sk)) ∧ (nI k = 3 → Q (nI sk / 2)) ∧ (nI k = 4 → Q ((nI sk / 2) + (nI y - nI y / 3 * 3))) ∧ (nI k = 5 → ((nI pl ≤ 0 → Q 0) ∧ (¬ nI pl ≤ 0 → Q 1))) ∧ (nI k = 6 → Q (nI fm + 2)) ∧ (¬ nI k = 1 → ¬ nI k = 2 → ¬ nI k = 3 → ¬ nI k = 4 → ¬ nI k = 5 → ¬ nI k = 6 → Q (nI pl)) := by
  refine swK hk rfl (fun e => ?_) (fun e => ?_) (fun e => ?_) (fun e => ?_) (fun e => ?_) (fun e => ?_) (fun e1 e2 e3 e4 e5 e6 => ?_)
  · subst e; exact h
  · subst e; exact h
  · subst e; rw [div2 (by omega)]; exact h
  · subst e
    have e3 : nI y - nI y / 3 * 3 = nI (y % 3) := remL 3 rfl (by omega) (by decide) (by decide)
    rw [div2 (by omega), e3, nI_add]
    exact h
  · subst e
    refine pk_le pl 0 (fun z => ?_) (fun z => ?_)
    · have e9 : gapK 5 pl fm sk y = 0 := by simp [gapK]; omega
      rw [e9] at h; exact h
    · have e9 : gapK 5 pl fm sk y = 1 := by simp [gapK]; omega
      rw [e9] at h; exact h
  · subst e
    have e9 : nI fm + 2 = nI (fm + 2) := nI_add fm 2
    rw [e9]; exact h
  · have e9 : gapK k pl fm sk y = pl := by simp [gapK, e1, e2, e3, e4, e5, e6]
    rw [e9] at h; exact h
theorem c_under2 {k : Nat} (hk : k < 7) {Q : Int32 → Prop} (h1 : (2 ≤ k ∧ k ≤ 4) → Q 1) (h0 : ¬ (2 ≤ k ∧ k ≤ 4) → Q 0) : pX4_isOrUnder (nI k) 2 Q := by
  have e : ∀ j : Nat, j < 7 → (nI k = nI j ↔ k = j) := fun j hj => nI_eq (by omega) (by omega)
  unfold pX4_isOrUnder
  refine ⟨fun c => absurd c (by decide), fun c => absurd c (by decide), fun _ => ?_, fun c => absurd c (by decide), fun _ _ c => absurd rfl c⟩
  unfold pX4_isOrUnder_66 pX4_isOrUnder_71
  refine ⟨fun c => ⟨Or.inr rfl, h1 (by have := (e 2 (by omega)).mp c; omega)⟩, fun c2 => ⟨fun c => ⟨Or.inr rfl, h1 (by have := (e 3 (by omega)).mp c; omega)⟩, fun c3 => ⟨fun c4 => ⟨Or.inl rfl, h0 ?_⟩, fun c => ⟨Or.inr rfl, h1 (by have := (e 4 (by omega)).mp c; omega)⟩⟩⟩⟩
  intro z
  have a2 : k ≠ 2 := fun z => c2 ((e 2 (by omega)).mpr z)
  have a3 : k ≠ 3 := fun z => c3 ((e 3 (by omega)).mpr z)
  have a4 : k ≠ 4 := fun z => c4 ((e 4 (by omega)).mpr z)
  omega
theorem c_gap (hw : Wf M) (hr : Rc M σ) {a b : Nat} (ha : a < M 8 0) (hb : b < M 8 0) {Q : Int32 → Prop} (h : Q (nI (gapN M a b))) : pX1_gapOf σ (nI a) (nI b) Q := by
  have h8 := hw.1
  have hra := hr.2.2.2.1 a ha
  have hrb := hr.2.2.2.1 b hb
  have hwa := hw.2.2.2.1 a ha
  have hwb := hw.2.2.2.1 b hb
  have hsr := srN_lt hw ha
  have hsl := slN_lt hw hb
  have hd := dst_lt hsr hsl
  have hva : vp_in (nI a) 8 := vp_in_nI (by omega) (by decide)
  have hvb : vp_in (nI b) 8 := vp_in_nI (by omega) (by decide)
  unfold pX1_gapOf
  refine c_sr hw hr ha (c_sl hw hr hb ?_)
  intro v11 e11
  rw [absN (by omega) (by omega)] at e11
  subst e11
  rw [nI_clamp (show a < 2 ^ 31 by omega), hra.2.2.2.1]
  have key : ∀ fm : Nat, fm < 10 → (fm = if M 3 a = b + 1 then 0 else dst (srN M a) (slN M b)) → pX1_gapOf_30 σ Q (nI a) (nI b) (nI (dst (srN M a) (slN M b))) (nI fm) := by
    intro fm hfm efm
    unfold pX1_gapOf_30
    rw [nI_clamp (show b < 2 ^ 31 by omega), hrb.1]
    refine ⟨hvb, ?_⟩
    have key2 : ∀ sk : Nat, sk < 11 → (sk = if 2 ≤ M 0 b ∧ M 0 b ≤ 4 then 0 else dst (srN M a) (slN M b) + 1) → pX1_gapOf_52 σ Q (nI a) (nI (dst (srN M a) (slN M b))) (nI fm) (nI sk) := by
      intro sk hsk esk
      unfold pX1_gapOf_52 pX1_gapOf_137
      intro v58 e58
      subst e58
      refine ⟨hva, ?_⟩
      intro v66 e66
      rw [nI_clamp (show a < 2 ^ 31 by omega), hra.1] at e66
      subst e66
      rw [hr.2.1]
      refine gapSw hwa.1 hd hfm hsk hw.2.1 ?_
      rw [efm, esk]
      exact h
    refine c_under2 hwb.1 (fun z => ?_) (fun z => ?_)
    · exact ⟨fun c => absurd c (by decide), fun _ => key2 0 (by omega) (by rw [if_pos z])⟩
    · refine ⟨fun _ => ?_, fun c => absurd rfl c⟩
      have e9 : nI (dst (srN M a) (slN M b)) + 1 = nI (dst (srN M a) (slN M b) + 1) := nI_1 _
      rw [e9]
      exact key2 _ (by omega) (by rw [if_neg z])
  refine ⟨hva, fun c => key _ hd ?_, fun c => key 0 (by omega) ?_⟩
  · rw [if_neg]
    intro z
    exact c ((m1_eq (by omega) (by omega)).mpr z).symm
  · rw [if_pos]
    exact (m1_eq (by omega) (by omega)).mp c.symm
theorem c_edge (hw : Wf M) (hr : Rc M σ) {p s : Nat} (hp : p < M 8 0) (hs : s < 2) {Q : Int32 → Prop} (h : Q (nI (edgeN M p s))) : pX1_edgeOf σ (nI p) (nI s) Q := by
  have h8 := hw.1
  have hrp := hr.2.2.2.1 p hp
  have hwp := hw.2.2.2.1 p hp
  have h1 := slN_lt hw hp
  have h2 := srN_lt hw hp
  have hv : vp_in (nI p) 8 := vp_in_nI (by omega) (by decide)
  have key : ∀ e : Nat, e < 10 → (e = if s = 0 then slN M p else srN M p) → pX1_edgeOf_17 σ Q (nI p) (nI e) := by
    intro e he ee
    unfold pX1_edgeOf_17 pX1_edgeOf_62
    refine ⟨hv, ?_⟩
    intro v24 e24
    rw [nI_clamp (show p < 2 ^ 31 by omega), hrp.1] at e24
    subst e24
    unfold edgeN at h
    rw [← ee] at h
    have e1 : nI e / 2 = nI (e / 2) := div2 (by omega)
    refine swE hwp.1 rfl (fun z => ?_) (fun z => ?_) (fun z => ?_) (fun z => ?_) (fun z => ?_) (fun a2 a3 a4 a5 a6 => ?_)
    · rw [z] at h; rw [e1]; exact h
    · rw [z] at h; rw [e1]; exact h
    · rw [z] at h
      have e2 : nI (e / 2) + 1 = nI (e / 2 + 1) := nI_1 _
      rw [e1, e2]; exact h
    · rw [z] at h
      have e2 : (9 : Int32) - nI e = nI (9 - e) := pk_sub (a := 9) (by omega)
      rw [e2]; exact h
    · rw [z] at h; exact h
    · have e9 : edgeK (M 0 p) e = e := by simp [edgeK, a2, a3, a4, a5, a6]
      rw [e9] at h; exact h
  unfold pX1_edgeOf
  refine ⟨fun c => c_sr hw hr hp (key _ h2 ?_), fun c => c_sl hw hr hp (key _ h1 ?_)⟩
  · rw [if_neg]
    intro z
    exact c (by rw [z]; rfl)
  · rw [if_pos]
    exact (nI_eq (b := 0) (by omega) (by decide)).mp c
theorem c_gapB (hw : Wf M) (hr : Rc M σ) {i : Nat} (hi : i + 1 < M 8 0) {Q : Int32 → Prop} (h : Q (nI (gapN M (M 4 i) (M 4 (i + 1))))) : pX1_gapBehind σ (nI i) Q := by
  have h8 := hw.1
  unfold pX1_gapBehind
  have e1 : nI i + 1 = nI (i + 1) := nI_1 i
  rw [e1, nI_clamp (show i < 2 ^ 31 by omega), nI_clamp (show i + 1 < 2 ^ 31 by omega), (hr.2.2.2.1 i (by omega)).2.2.2.2, (hr.2.2.2.1 (i + 1) hi).2.2.2.2]
  exact ⟨vp_in_nI (by omega) (by decide), vp_in_nI (by omega) (by decide), c_gap hw hr (hw.2.2.2.1 i (by omega)).2.2.2.2.2 (hw.2.2.2.1 (i + 1) hi).2.2.2.2.2 h⟩
theorem gapsN_lt (hw : Wf M) : ∀ k, k < M 8 0 → gapsN M k ≤ 11 * k
  | 0, _ => Nat.le_refl _
  | k + 1, hk => by
    have h1 := gapsN_lt hw k (by omega)
    have h2 := gapN_lt hw (hw.2.2.2.1 k (by omega)).2.2.2.2.2 (hw.2.2.2.1 (k + 1) hk).2.2.2.2.2
    rw [gapsN]
    omega
theorem sumN_lt (hw : Wf M) : sumN M < 100 := by
  have h8 := hw.1
  unfold sumN
  split
  · omega
  · have h1 := gapsN_lt hw (M 8 0 - 1) (by omega)
    have h2 := edgeN_lt (s := 0) hw (hw.2.2.2.1 0 (by omega)).2.2.2.2.2
    have h3 := edgeN_lt (s := 1) hw (hw.2.2.2.1 (M 8 0 - 1) (by omega)).2.2.2.2.2
    omega
theorem c_sum (hw : Wf M) (hr : Rc M σ) {Q : Int32 → Prop} (h : Q (nI (sumN M))) : pX1_sumOfRow σ Q := by
  have h8 := hw.1
  have hn := hr.1
  unfold pX1_sumOfRow
  rw [hn]
  have hsum := sumN_lt hw
  by_cases e0 : M 8 0 = 0
  · refine ⟨fun c => absurd (by rw [e0]; rfl) c, fun _ => ?_⟩
    have e9 : sumN M = 0 := by unfold sumN; rw [if_pos e0]
    rw [e9] at h
    exact h
  · refine ⟨fun _ => ?_, fun c => absurd c (nI_ne0 (by omega) (by omega))⟩
    have e1 : nI (M 8 0) - 1 = nI (M 8 0 - 1) := pk_sub (b := 1) (by omega)
    rw [e1, nI_clamp (show M 8 0 - 1 < 2 ^ 31 by omega), show (0 : Int32).toNatClampNeg = 0 from rfl, (hr.2.2.2.1 0 (by omega)).2.2.2.2, (hr.2.2.2.1 (M 8 0 - 1) (by omega)).2.2.2.2]
    have hp0 := (hw.2.2.2.1 0 (by omega)).2.2.2.2.2
    have hp1 := (hw.2.2.2.1 (M 8 0 - 1) (by omega)).2.2.2.2.2
    refine ⟨vp_in_nI (n := 0) (by decide) (by decide), c_edge (s := 0) hw hr hp0 (by decide) ⟨vp_in_nI (by omega) (by decide), c_edge (s := 1) hw hr hp1 (by decide) ?_⟩⟩
    intro v37 e37
    rw [nI_add] at e37
    subst e37
    have he0 := edgeN_lt (s := 0) hw hp0
    have he1 := edgeN_lt (s := 1) hw hp1
    have key : ∀ (d i : Nat), i + d + 1 = M 8 0 → pX1_sumOfRow_40 σ Q (d + 1) (nI (edgeN M (M 4 0) 0 + edgeN M (M 4 (M 8 0 - 1)) 1 + gapsN M i)) (nI i) := by
      intro d
      induction d with
      | zero =>
        intro i hi
        show pX1_sumOfRow_40s σ _ Q _ _
        unfold pX1_sumOfRow_40s
        have e2 : nI i + 1 = nI (i + 1) := nI_1 i
        rw [hn, e2]
        refine pk_le (M 8 0) (i + 1) (fun _ => ?_) (fun z => by omega)
        have e9 : sumN M = edgeN M (M 4 0) 0 + edgeN M (M 4 (M 8 0 - 1)) 1 + gapsN M i := by
          unfold sumN
          rw [if_neg e0, show M 8 0 - 1 = i by omega]
        rw [e9] at h
        exact h
      | succ d ih =>
        intro i hi
        show pX1_sumOfRow_40s σ (pX1_sumOfRow_40 σ Q (d + 1)) Q _ _
        unfold pX1_sumOfRow_40s
        have e2 : nI i + 1 = nI (i + 1) := nI_1 i
        rw [hn, e2]
        refine pk_le (M 8 0) (i + 1) (fun z => by omega) (fun _ => ?_)
        refine c_gapB hw hr (by omega) ?_
        intro v57 e57
        rw [nI_add] at e57
        subst e57
        have h9 := ih (i + 1) (by omega)
        rw [gapsN, ← Nat.add_assoc] at h9
        exact h9
    exact ⟨_, key (M 8 0 - 1) 0 (by omega)⟩
end Pure
