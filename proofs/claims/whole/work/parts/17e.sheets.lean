section Sheets
variable {M : Nx} {S S' : Nat → Mx} {σ μ μ' : Mx}
theorem c_wrong (hs : Sh S μ) {x : Int32} {Q : Int32 → Prop} (h0 : Out 4 x → Q 0) (h5 : ∀ s w z, s < 4 → x = nI s → Sh1 S μ s w z → w = 0 → Q 5) (hk : ∀ s w z, s < 4 → x = nI s → Sh1 S μ s w z → w ≠ 0 → Q (-1)) : pX4_wrongSheet S x Q := by
  unfold pX4_wrongSheet pX4_wrongSheet_26
  refine c_isSheet (fun s h4 e => t1' ⟨?_, ?_⟩) (fun o => t0' (h0 o))
  · rw [e]; exact vp_in_nI h4 (by decide)
  · obtain ⟨w, z, h⟩ := hs s h4
    have h' := h
    obtain ⟨hw, hz, a1, a2, a3, a4, a5⟩ := h'
    have g5 := h5 s w z h4 e h
    have gk := hk s w z h4 e h
    rw [e, nI_clamp (by omega), a1]
    exact b_eq' (b := 0) (by omega) (by decide) g5 gk
theorem m_lacks_o {x g : Int32} (ho : Out 4 x) {Q : Int32 → Prop} (h : Q (-1000001)) : pX5_lacks μ x g Q := by
  unfold pX5_lacks pX5_lacks_36
  exact m_n_isSheet ho (t0' h)
theorem m_lacks_m {s w z : Nat} (h4 : s < 4) (h : Sh1 S μ s w z) (e : w = 0) {g : Int32} {Q : Int32 → Prop} (hq : Q (-1000006)) : pX5_lacks μ (nI s) g Q := by
  obtain ⟨hw, hz, a1, a2, a3, a4, a5⟩ := h
  unfold pX5_lacks pX5_lacks_36
  rw [nI_clamp (by omega), a2, e]
  exact m_y_isSheet h4 (t1' ⟨vp_in_nI h4 (by decide), t0' hq⟩)
theorem m_lacks_g {s w z : Nat} (h4 : s < 4) (h : Sh1 S μ s w z) (e : w ≠ 0) {g : Int32} {Q : Int32 → Prop} (h0 : g = 0 → Q (-1000001)) (h1 : ¬ g = 0 → Q 0) : pX5_lacks μ (nI s) g Q := by
  obtain ⟨hw, hz, a1, a2, a3, a4, a5⟩ := h
  unfold pX5_lacks pX5_lacks_36
  rw [nI_clamp (by omega), a2]
  exact m_y_isSheet h4 (t1' ⟨vp_in_nI h4 (by decide), b_eq' (b := 0) (by omega) (by decide) (fun y => absurd y e) (fun _ => ⟨h0, h1⟩)⟩)
theorem Sh_up (h : Sh S μ) {s : Nat} (hS : ∀ j, j < 4 → j ≠ s → S' (j + 6) = S (j + 6)) (h17 : ∀ j, j ≠ s → μ' 17 j = μ 17 j) (h18 : ∀ j, j ≠ s → μ' 18 j = μ 18 j) (h19 : ∀ i, (i < 40 * s ∨ 40 * s + 40 ≤ i) → μ' 19 i = μ 19 i) (new : ∃ w z, Sh1 S' μ' s w z) : Sh S' μ' := by
  intro j hj
  by_cases e : j = s
  · rw [e]
    exact new
  · obtain ⟨w, z, a1, a2, a3, a4, a5, a6, a7⟩ := h j hj
    refine ⟨w, z, a1, a2, by rw [hS j hj e]; exact a3, by rw [h17 j e]; exact a4, by rw [hS j hj e]; exact a5, by rw [h18 j e]; exact a6, fun k hk => ?_⟩
    rw [hS j hj e, h19 _ (by omega)]
    exact a7 k hk
theorem c_begin {w z : Nat} {Q : Mx → Prop} (hw : w < 2 ^ 31) (h : ∀ τ : Mx, τ 1 0 = nI w → τ 2 0 = nI (if w = 0 then 0 else z) → (∀ k, k < 40 → τ 0 k = 0) → Q τ) : pX2_begin σ (nI w) (nI z) Q := by
  have key : ∀ (y : Nat) d i (τ : Mx), y = (if w = 0 then 0 else z) → i + d = 40 → τ 1 0 = nI w → τ 2 0 = nI y → (∀ k, k < i → τ 0 k = 0) → pX2_begin_20 Q (d + 1) (nI i) τ := by
    intro y d
    induction d with
    | zero =>
      intro i τ hy hi a b c
      show pX2_begin_20s _ Q _ _
      unfold pX2_begin_20s
      refine b_le (a := 40) (by decide) (by omega) (fun _ => h τ a (by rw [b, hy]) (fun k hk => c k (by omega))) (fun z => by omega)
    | succ d ih =>
      intro i τ hy hi a b c
      show pX2_begin_20s (pX2_begin_20 Q (d + 1)) Q _ _
      unfold pX2_begin_20s
      rw [nI_clamp (by omega), nI_1]
      refine b_le (a := 40) (by decide) (by omega) (fun z => by omega) (fun _ => ⟨vp_in_nI (by omega) (by decide), ih (i + 1) _ hy (by omega) ?_ ?_ (fun k hk => ?_)⟩)
      · rw [st_nf (by decide)]; exact a
      · rw [st_nf (by decide)]; exact b
      · by_cases e : k = i
        · subst e
          rw [st_at]
        · rw [st_off e]
          exact c k (by omega)
  unfold pX2_begin pX2_begin_15
  refine b_eq' (b := 0) hw (by decide) (fun e => ⟨_, key 0 40 0 _ (by rw [if_pos e]) (by omega) ?_ ?_ (fun k hk => absurd hk (by omega))⟩) (fun e => ⟨_, key z 40 0 _ (by rw [if_neg e]) (by omega) ?_ ?_ (fun k hk => absurd hk (by omega))⟩)
  · rw [st_nf (by decide), st_at]
  · rw [st_at]; rfl
  · rw [st_nf (by decide), st_at]
  · rw [st_at]
theorem at40 (s k : Nat) : (40 * nI s) + nI k = nI (40 * s + k) := by
  have e : (40 : Int32) * nI s = nI (40 * s) := pk_mul 40 s
  rw [e, nI_add]
theorem m_begin {s w z : Nat} (h4 : s < 4) (hw : w < 2 ^ 31) (hz : z ≤ 40) {Q : Int32 → Mx → Prop} (h : ∀ τ : Mx, τ 17 s = nI w → (∀ j, j ≠ s → τ 17 j = μ 17 j) → τ 18 s = nI (if w = 0 then 0 else z) → (∀ j, j ≠ s → τ 18 j = μ 18 j) → (∀ k, k < 40 → τ 19 (40 * s + k) = 0) → (∀ i, (i < 40 * s ∨ 40 * s + 40 ≤ i) → τ 19 i = μ 19 i) → (∀ f, f ≠ 17 → f ≠ 18 → f ≠ 19 → τ f = μ f) → Q (nI (if w = 0 then 0 else z)) τ) : pX5_sheet_36 Q (nI s) (nI w) (nI z) μ := by
  have hv : vp_in (nI s) 4 := vp_in_nI h4 (by decide)
  have key : ∀ (y : Nat) d i (τ : Mx), y = (if w = 0 then 0 else z) → i + d = 40 → τ 17 s = nI w → (∀ j, j ≠ s → τ 17 j = μ 17 j) → τ 18 s = nI y → (∀ j, j ≠ s → τ 18 j = μ 18 j) → (∀ k, k < i → τ 19 (40 * s + k) = 0) → (∀ i, (i < 40 * s ∨ 40 * s + 40 ≤ i) → τ 19 i = μ 19 i) → (∀ f, f ≠ 17 → f ≠ 18 → f ≠ 19 → τ f = μ f) → pX5_sheet_86 Q (d + 1) (nI s) (nI i) τ := by
    intro y d
    induction d with
    | zero =>
      intro i τ hy hi a1 a2 a3 a4 a5 a6 a7
      show pX5_sheet_86s _ Q _ _ _
      unfold pX5_sheet_86s
      rw [nI_clamp (by omega), a3, hy]
      exact b_le (a := 40) (by decide) (by omega) (fun _ => ⟨hv, h τ a1 a2 (by rw [a3, hy]) a4 (fun k hk => a5 k (by omega)) a6 a7⟩) (fun z => by omega)
    | succ d ih =>
      intro i τ hy hi a1 a2 a3 a4 a5 a6 a7
      show pX5_sheet_86s (pX5_sheet_86 Q (d + 1)) Q _ _ _
      unfold pX5_sheet_86s
      rw [at40, nI_clamp (show 40 * s + i < 2 ^ 31 by omega), nI_1]
      refine b_le (a := 40) (by decide) (by omega) (fun z => by omega) (fun _ => ⟨vp_in_nI (by omega) (by decide), ih (i + 1) _ hy (by omega) ?_ (fun j hj => ?_) ?_ (fun j hj => ?_) (fun k hk => ?_) (fun k hk => ?_) (fun f f1 f2 f3 => ?_)⟩)
      · rw [st_nf (by decide)]; exact a1
      · rw [st_nf (by decide)]; exact a2 j hj
      · rw [st_nf (by decide)]; exact a3
      · rw [st_nf (by decide)]; exact a4 j hj
      · by_cases e : k = i
        · subst e
          rw [st_at]
        · rw [st_off (by omega)]
          exact a5 k (by omega)
      · rw [st_off (by omega)]
        exact a6 k hk
      · rw [st_nf f3]
        exact a7 f f1 f2 f3
  have go : ∀ y, y = (if w = 0 then 0 else z) → pX5_sheet_82 Q (nI s) (nI y) (nI s) (st μ 17 (nI s).toNatClampNeg (nI w)) := by
    intro y hy
    unfold pX5_sheet_82
    rw [nI_clamp (by omega)]
    refine ⟨hv, _, key y 40 0 _ hy (by omega) ?_ (fun j hj => ?_) ?_ (fun j hj => ?_) (fun k hk => absurd hk (by omega)) (fun k hk => ?_) (fun f f1 f2 f3 => ?_)⟩
    · rw [st_nf (by decide), st_at]
    · rw [st_nf (by decide), st_off hj]
    · rw [st_at]
    · rw [st_off hj, st_nf (by decide)]
    · rw [st_nf (by decide), st_nf (by decide)]
    · rw [st_nf f2, st_nf f1]
  unfold pX5_sheet_36
  refine ⟨fun _ => b_le (b := 40) (by omega) (by decide) (fun _ => ⟨hv, b_eq' (b := 0) hw (by decide) (fun e => go 0 (by rw [if_pos e])) (fun e => go z (by rw [if_neg e]))⟩) (fun y => by omega), fun y => absurd (nI_pos' (by omega)) y⟩
theorem ok32 : OK_32 Inv := by
  intro S μ x1 x2 x3 hI
  have hI' := hI
  obtain ⟨M, hw, hc, hm, h1, h2, h3, h4⟩ := hI'
  have G : pX5_sheet_29 (fun r1 u1 => (-1000001) - nI 0 = r1 ∧ Inv (fS S 0) u1) μ := fin hI 0 (by decide) (by decide)
  have hsw : ∀ {R : Int32 → Mx → Prop} {s : Nat}, s < 4 → x1 = nI s → (x2 = 0 ∨ x2 = 8 ∨ x2 = 16 ∨ x2 = 32) → pX5_sheet_36 R x1 x2 x3 μ → pX5_sheet μ x1 x2 x3 R := by
    intro R s hs e hb h
    unfold pX5_sheet
    rw [e] at h ⊢
    refine m_y_isSheet hs (t1 ⟨fun _ => h, fun c0 => ⟨fun _ => h, fun c8 => ⟨fun _ => h, fun c16 => ⟨fun _ => h, fun c32 => ?_⟩⟩⟩⟩)
    exact absurd hb (fun y => y.elim c0 (fun y => y.elim c8 (fun y => y.elim c16 c32)))
  have A : ∀ w, (w = 0 ∨ w = 8 ∨ w = 16 ∨ w = 32) → x2 = nI w → pX4_sheet_22 (fun r0 u0 => pX5_sheet μ x1 x2 x3 (fun r1 u1 => r0 = r1 ∧ Inv u0 u1)) x1 x2 x3 S := by
    intro w hw4 ew
    have hb : x2 = 0 ∨ x2 = 8 ∨ x2 = 16 ∨ x2 = 32 := by
      rcases hw4 with e | e | e | e <;> subst e
      · exact Or.inl ew
      · exact Or.inr (Or.inl ew)
      · exact Or.inr (Or.inr (Or.inl ew))
      · exact Or.inr (Or.inr (Or.inr ew))
    unfold pX4_sheet_22 pX4_sheet_27 pX4_sheet_41
    refine c_isSheet (fun s hs e => t1 (t1' ?_)) (fun o1 => t0 (c_found 0 (by decide) rfl ?_))
    · have hgo : ∀ {R : Int32 → Mx → Prop}, pX5_sheet_36 R x1 x2 x3 μ → pX5_sheet μ x1 x2 x3 R := fun h => hsw hs e hb h
      have hv : vp_in x1 4 := by rw [e]; exact vp_in_nI hs (by decide)
      rcases in_or 41 (by decide) x3 with ⟨z, hz, ez⟩ | ⟨o3, hx⟩
      · have e40 : x3 ≤ 40 := by
          rw [ez]
          exact (nI_leI (b := 40) (by omega) (by decide)).mpr (by omega)
        refine ⟨fun _ => ⟨fun _ => ⟨hv, ?_⟩, fun y => absurd e40 y⟩, fun y => absurd (by rw [ez]; exact nI_pos' (by omega)) y⟩
        have ecl : x1.toNatClampNeg = s := by rw [e]; exact nI_clamp (by omega)
        rw [ecl]
        have cb : pX2_begin (S (s + 6)) (nI w) (nI z) (fun u78 => vp_in x1 4 ∧ pX5_sheet μ x1 x2 x3 (fun r1 u1 => (va_up S (s + 6) u78) (s + 6) 2 0 = r1 ∧ Inv (va_up S (s + 6) u78) u1)) := by
          refine c_begin (by omega) (fun τ b1 b2 b3 => ⟨hv, hgo ?_⟩)
          rw [e, ew, ez]
          refine m_begin hs (by omega) (by omega) (fun υ d1 d2 d3 d4 d5 d6 d7 => ⟨by rw [va_up_self, b2], M, hw, ?_, ?_, ?_, ?_, ?_, ?_⟩)
          · rw [va_up_ne _ _ (by omega)]; exact hc
          · rw [d7 0 (by decide) (by decide) (by decide)]; exact hm
          · exact Kp_cg h1 (by rw [va_up_ne _ _ (by omega)]) (by rw [va_up_ne _ _ (by omega)]) (d7 3 (by decide) (by decide) (by decide)) (d7 1 (by decide) (by decide) (by decide))
          · exact Fi_cg h2 (by rw [va_up_ne _ _ (by omega)]) (d7 4 (by decide) (by decide) (by decide))
          · exact Tp_cg h3 (by rw [va_up_ne _ _ (by omega)]) (d7 6 (by decide) (by decide) (by decide)) (d7 7 (by decide) (by decide) (by decide))
          · refine Sh_up h4 (s := s) (fun j hj hne => by rw [va_up_ne _ _ (by omega)]) d2 d4 d6 ⟨w, if w = 0 then 0 else z, hw4, by split <;> omega, ?_, d1, ?_, d3, fun k hk => ?_⟩
            · rw [va_up_self]; exact b1
            · rw [va_up_self]; exact b2
            · rw [va_up_self, d5 k hk, b3 k hk]
        rw [← ew, ← ez] at cb
        exact cb
      · rcases hx with hx | hx
        · have hn : ¬ 0 ≤ x3 := by
            rw [Int32.lt_iff_toInt_lt] at hx
            rw [Int32.le_iff_toInt_le]
            omega
          refine ⟨fun y => absurd y hn, fun _ => c_found 6 (by decide) rfl (hgo ?_)⟩
          unfold pX5_sheet_36
          exact ⟨fun y => absurd y hn, fun _ => fin hI 6 (by decide) (by decide)⟩
        · have h0 : 0 ≤ x3 := by
            rw [Int32.le_iff_toInt_le, nI_toInt (by decide)] at hx
            rw [Int32.le_iff_toInt_le, Int32.toInt_zero]
            omega
          have h40 : ¬ x3 ≤ 40 := by
            rw [Int32.le_iff_toInt_le, nI_toInt (by decide)] at hx
            rw [Int32.le_iff_toInt_le]
            have e40 : (40 : Int32).toInt = 40 := rfl
            omega
          refine ⟨fun _ => ⟨fun y => absurd y h40, fun _ => c_found 0 (by decide) rfl (hgo ?_)⟩, fun y => absurd h0 y⟩
          unfold pX5_sheet_36
          exact ⟨fun _ => ⟨fun y => absurd y h40, fun _ => fin hI 0 (by decide) (by decide)⟩, fun y => absurd h0 y⟩
    · unfold pX5_sheet
      exact m_n_isSheet o1 (t0 G)
  unfold pX4_sheet
  refine ⟨fun c => A 0 (by decide) c, fun c0 => ⟨fun c => A 8 (by decide) c, fun c8 => ⟨fun c => A 16 (by decide) c, fun c16 => ⟨fun c32 => ?_, fun c => A 32 (by decide) c⟩⟩⟩⟩
  unfold pX4_sheet_27 pX4_sheet_41
  refine c_isSheet (fun s hs e => t1 (t0' (c_found 0 (by decide) rfl ?_))) (fun o1 => t0 (c_found 0 (by decide) rfl ?_))
  · unfold pX5_sheet
    rw [e]
    exact m_y_isSheet hs (t1 ⟨fun y => absurd y c0, fun _ => ⟨fun y => absurd y c8, fun _ => ⟨fun y => absurd y c16, fun _ => ⟨fun y => absurd y c32, fun _ => G⟩⟩⟩⟩)
  · unfold pX5_sheet
    exact m_n_isSheet o1 (t0 G)
/-- a number cut to so many bits -/
def cutI (w : Nat) (x : Int32) : Int32 := if w = 8 then x.toInt8.toInt32 else if w = 16 then x.toInt16.toInt32 else x
theorem c_put {w i : Nat} (hw : w < 2 ^ 31) (e : σ 1 0 = nI w) (hi : i < 40) {x : Int32} {Q : Mx → Prop} (h : Q (st σ 0 i (cutI w x))) : pX2_put σ (nI i) x Q := by
  have hv : vp_in (nI i) 40 := vp_in_nI hi (by decide)
  unfold pX2_put pX2_put_47
  unfold cutI at h
  rw [e, nI_clamp (by omega)]
  refine b_eq' (b := 8) hw (by decide) (fun z => ⟨hv, ?_⟩) (fun z => b_eq' (b := 16) hw (by decide) (fun z2 => ⟨hv, ?_⟩) (fun z2 => ⟨hv, ?_⟩))
  · rw [if_pos z] at h; exact h
  · rw [if_neg z, if_pos z2] at h; exact h
  · rw [if_neg z, if_neg z2] at h; exact h
theorem m_cutTo {w : Nat} (hw : w < 2 ^ 31) {x : Int32} {Q : Int32 → Prop} (h : Q (cutI w x)) : pX5_cutTo x (nI w) Q := by
  unfold pX5_cutTo pX5_cutTo_23
  unfold cutI at h
  refine b_eq' (b := 8) hw (by decide) (fun z => ?_) (fun z => b_eq' (b := 16) hw (by decide) (fun z2 => ?_) (fun z2 => ?_))
  · rw [if_pos z] at h; exact h
  · rw [if_neg z, if_pos z2] at h; exact h
  · rw [if_neg z, if_neg z2] at h; exact h
theorem ok33 : OK_33 Inv := by
  intro S μ x1 x2 x3 hI
  have hI' := hI
  obtain ⟨M, hw, hc, hm, h1, h2, h3, h4⟩ := hI'
  unfold pX4_write pX4_write_36
  refine c_wrong h4 (fun o => ⟨fun y => absurd y (by decide), fun _ => c_found 0 (by decide) rfl ?_⟩) (fun s w z hs e h e0 => ⟨fun y => absurd y (by decide), fun _ => c_found 5 (by decide) rfl ?_⟩) (fun s w z hs e h e0 => ⟨fun _ => ?_, fun y => absurd (by decide) y⟩)
  · unfold pX5_write
    exact m_n_isSheet o (t0' (fin hI 0 (by decide) (by decide)))
  · unfold pX5_write
    obtain ⟨g1, g2, g3, g4, g5, g6, g7⟩ := h
    rw [e, nI_clamp (by omega), g4, e0]
    exact m_y_isSheet hs (t1' ⟨vp_in_nI hs (by decide), t0' (fin hI 5 (by decide) (by decide))⟩)
  · have h' := h
    obtain ⟨g1, g2, g3, g4, g5, g6, g7⟩ := h'
    have hv : vp_in x1 4 := by rw [e]; exact vp_in_nI hs (by decide)
    have ecl : x1.toNatClampNeg = s := by rw [e]; exact nI_clamp (by omega)
    have hgo : ∀ {R : Int32 → Mx → Prop}, pX5_within x2 0 (nI z - 1) (fun r40 => (¬ r40 = 0 → vp_in x1 4 ∧ pX5_cutTo x3 (nI w) (fun r70 => vp_in ((40 * x1) + x2) 160 ∧ R 1 (st μ 19 ((40 * x1) + x2).toNatClampNeg r70))) ∧ (r40 = 0 → pX5_finding μ (-1000001) (fun r49 u49 => R r49 u49))) → pX5_write μ x1 x2 x3 R := by
      intro R hR
      unfold pX5_write
      rw [ecl, g4, g6]
      rw [e] at hR ⊢
      exact m_y_isSheet hs (t1' ⟨vp_in_nI hs (by decide), b_eq' (b := 0) (by omega) (by decide) (fun y => absurd y e0) (fun _ => ⟨vp_in_nI hs (by decide), hR⟩)⟩)
    rw [ecl, g5]
    rcases in_or z (by omega) x2 with ⟨i, hi, ei⟩ | ⟨o, hx⟩
    · subst ei
      refine ⟨fun y => absurd y (nI_pos (by omega)), fun _ => ⟨hv, b_lt (by omega) (by omega) (fun _ => ⟨hv, c_put (by omega) g3 (by omega) (hgo ?_)⟩) (fun y => by omega)⟩⟩
      rw [e, at40, nI_clamp (show 40 * s + i < 2 ^ 31 by omega)]
      refine my (by omega) hi rfl (t1' ⟨vp_in_nI hs (by decide), m_cutTo (by omega) ⟨vp_in_nI (by omega) (by decide), rfl, M, hw, ?_, ?_, ?_, ?_, ?_, ?_⟩⟩)
      · rw [va_up_ne _ _ (by omega)]; exact hc
      · rw [st_nf (by decide)]; exact hm
      · exact Kp_cg h1 (by rw [va_up_ne _ _ (by omega)]) (by rw [va_up_ne _ _ (by omega)]) (st_nf (by decide)) (st_nf (by decide))
      · exact Fi_cg h2 (by rw [va_up_ne _ _ (by omega)]) (st_nf (by decide))
      · exact Tp_cg h3 (by rw [va_up_ne _ _ (by omega)]) (st_nf (by decide)) (st_nf (by decide))
      · refine Sh_up h4 (s := s) (fun j hj hne => by rw [va_up_ne _ _ (by omega)]) (fun j hj => by rw [st_nf (by decide)]) (fun j hj => by rw [st_nf (by decide)]) (fun j hj => by rw [st_off (by omega)]) ⟨w, z, g1, g2, ?_, ?_, ?_, ?_, fun k hk => ?_⟩
        · rw [va_up_self, st_nf (by decide)]; exact g3
        · rw [st_nf (by decide)]; exact g4
        · rw [va_up_self, st_nf (by decide)]; exact g5
        · rw [st_nf (by decide)]; exact g6
        · rw [va_up_self]
          by_cases ek : k = i
          · subst ek
            rw [st_at, st_at]
          · rw [st_off (by omega), st_off ek]
            exact g7 k hk
    · have F : pX4_found S 0 (fun r0 u0 => pX5_write μ x1 x2 x3 (fun r1 u1 => r0 = r1 ∧ Inv u0 u1)) := c_found 0 (by decide) rfl (hgo (mn (by omega) o rfl (t0' (fin hI 0 (by decide) (by decide)))))
      refine ⟨fun _ => F, fun y => ⟨hv, fun y2 => ?_, fun _ => F⟩⟩
      rcases hx with hx | hx
      · exact absurd hx y
      · rw [Int32.le_iff_toInt_le] at hx
        rw [Int32.lt_iff_toInt_lt] at y2
        omega
end Sheets
