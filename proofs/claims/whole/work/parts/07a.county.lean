abbrev rX1_takeFrom : Room := { frames := 1, cells := 0, slots := 0, locals := 60 }
def pX1_takeFrom (σ : Mx) (σ2 : Mx)  (Q : Mx → Prop) : Prop := Q σ2
set_option maxHeartbeats 4000000 in
set_option maxRecDepth 100000 in
theorem mX1_takeFrom (l : Launch) (D : va_G) (κ : Nat → ClassId) (a : Nat → Nat) (a2 : Nat → Nat) {σ : Mx} {σ2 : Mx}  {Q : Mx → Prop} (hIt : Ij a 8) (hDj : Dj a 8 a2 8) (h : pX1_takeFrom σ σ2  Q) : Met l yX1_takeFrom (wz yX1_takeFrom cX1_takeFrom 2 none) rX1_takeFrom (va_Pc [.ref (a 0), .ref (a2 0)] (PE D κ (fun H => va_P D classes (wCo κ a σ) H ∧ va_P D classes (wCo κ a2 σ2) H))) (QWv Q (fun u H => va_P D classes (wCo κ a u) H) (cA a 8)) 0 0 (cA a 8) := by
  refine Met_of l (own := RX1) (by decide) rfl (Nat.le_of_ble_eq_true rfl) (fun p e s m below meth c Cc hPP ls hl => ?_)
  obtain ⟨hx, hb, hml, hown, hts, hr, hlk, hE⟩ := id Cc
  have hl : lv_has ls 2 [(0, .ref (a 0)), (1, .ref (a2 0))] := hl
  obtain ⟨hPt, hPu⟩ := hPP
  have hS : va_S (cA a 8) s.heap s.heap [] := va_S.rf
  unfold pX1_takeFrom at h
  refine lv_aload_n hx hb dX1_takeFrom_0 rfl (lv_at hl 1 rfl) ?_
  refine gCo_0 Cc hPu (tw_97 hts) dX1_takeFrom_1 ?_
  refine lv_iconst (v := 0) hx hb dX1_takeFrom_4 (by decide) ?_
  refine lv_aload_n hx hb dX1_takeFrom_5 rfl (lv_at hl 0 rfl) ?_
  refine gCo_0 Cc hPt (tw_97 hts) dX1_takeFrom_6 ?_
  refine lv_iconst (v := 0) hx hb dX1_takeFrom_9 (by decide) ?_
  refine lv_bipush (v := 8) hx hb dX1_takeFrom_10 (by decide) ?_
  refine cpCo_0 Cc hl.1 hPu hPt hIt hS ⟨1, by decide, rfl⟩ (tw_439 hts) (tw_441 hts) (tw_440 hts) (tw_77 hts) (Nat.le_of_ble_eq_true rfl) (Nat.le_of_ble_eq_true rfl) dX1_takeFrom_12 (fun H1 locs1 hB hS1 hk => ?_)
  have hPu := kp1 wCo_wl hPu hDj (i0 := 1) (by decide) hk
  have hPt := hB
  have hS := hS1
  refine lv_aload_n hx hb dX1_takeFrom_15 rfl (lv_at hl 1 rfl) ?_
  refine gCo_1 Cc hPu (tw_99 hts) dX1_takeFrom_16 ?_
  refine lv_iconst (v := 0) hx hb dX1_takeFrom_19 (by decide) ?_
  refine lv_aload_n hx hb dX1_takeFrom_20 rfl (lv_at hl 0 rfl) ?_
  refine gCo_1 Cc hPt (tw_99 hts) dX1_takeFrom_21 ?_
  refine lv_iconst (v := 0) hx hb dX1_takeFrom_24 (by decide) ?_
  refine lv_bipush (v := 8) hx hb dX1_takeFrom_25 (by decide) ?_
  refine cpCo_1 Cc hl.1 hPu hPt hIt hS ⟨2, by decide, rfl⟩ (tw_439 hts) (tw_441 hts) (tw_440 hts) (tw_77 hts) (Nat.le_of_ble_eq_true rfl) (Nat.le_of_ble_eq_true rfl) dX1_takeFrom_27 (fun H1 locs1 hB hS1 hk => ?_)
  have hPu := kp1 wCo_wl hPu hDj (i0 := 2) (by decide) hk
  have hPt := hB
  have hS := hS1
  refine lv_aload_n hx hb dX1_takeFrom_30 rfl (lv_at hl 1 rfl) ?_
  refine gCo_2 Cc hPu (tw_101 hts) dX1_takeFrom_31 ?_
  refine lv_iconst (v := 0) hx hb dX1_takeFrom_34 (by decide) ?_
  refine lv_aload_n hx hb dX1_takeFrom_35 rfl (lv_at hl 0 rfl) ?_
  refine gCo_2 Cc hPt (tw_101 hts) dX1_takeFrom_36 ?_
  refine lv_iconst (v := 0) hx hb dX1_takeFrom_39 (by decide) ?_
  refine lv_bipush (v := 8) hx hb dX1_takeFrom_40 (by decide) ?_
  refine cpCo_2 Cc hl.1 hPu hPt hIt hS ⟨3, by decide, rfl⟩ (tw_439 hts) (tw_441 hts) (tw_440 hts) (tw_77 hts) (Nat.le_of_ble_eq_true rfl) (Nat.le_of_ble_eq_true rfl) dX1_takeFrom_42 (fun H1 locs1 hB hS1 hk => ?_)
  have hPu := kp1 wCo_wl hPu hDj (i0 := 3) (by decide) hk
  have hPt := hB
  have hS := hS1
  refine lv_aload_n hx hb dX1_takeFrom_45 rfl (lv_at hl 1 rfl) ?_
  refine gCo_3 Cc hPu (tw_103 hts) dX1_takeFrom_46 ?_
  refine lv_iconst (v := 0) hx hb dX1_takeFrom_49 (by decide) ?_
  refine lv_aload_n hx hb dX1_takeFrom_50 rfl (lv_at hl 0 rfl) ?_
  refine gCo_3 Cc hPt (tw_103 hts) dX1_takeFrom_51 ?_
  refine lv_iconst (v := 0) hx hb dX1_takeFrom_54 (by decide) ?_
  refine lv_bipush (v := 8) hx hb dX1_takeFrom_55 (by decide) ?_
  refine cpCo_3 Cc hl.1 hPu hPt hIt hS ⟨4, by decide, rfl⟩ (tw_439 hts) (tw_441 hts) (tw_440 hts) (tw_77 hts) (Nat.le_of_ble_eq_true rfl) (Nat.le_of_ble_eq_true rfl) dX1_takeFrom_57 (fun H1 locs1 hB hS1 hk => ?_)
  have hPu := kp1 wCo_wl hPu hDj (i0 := 4) (by decide) hk
  have hPt := hB
  have hS := hS1
  refine lv_aload_n hx hb dX1_takeFrom_60 rfl (lv_at hl 1 rfl) ?_
  refine gCo_4 Cc hPu (tw_105 hts) dX1_takeFrom_61 ?_
  refine lv_iconst (v := 0) hx hb dX1_takeFrom_64 (by decide) ?_
  refine lv_aload_n hx hb dX1_takeFrom_65 rfl (lv_at hl 0 rfl) ?_
  refine gCo_4 Cc hPt (tw_105 hts) dX1_takeFrom_66 ?_
  refine lv_iconst (v := 0) hx hb dX1_takeFrom_69 (by decide) ?_
  refine lv_bipush (v := 8) hx hb dX1_takeFrom_70 (by decide) ?_
  refine cpCo_4 Cc hl.1 hPu hPt hIt hS ⟨5, by decide, rfl⟩ (tw_439 hts) (tw_441 hts) (tw_440 hts) (tw_77 hts) (Nat.le_of_ble_eq_true rfl) (Nat.le_of_ble_eq_true rfl) dX1_takeFrom_72 (fun H1 locs1 hB hS1 hk => ?_)
  have hPu := kp1 wCo_wl hPu hDj (i0 := 5) (by decide) hk
  have hPt := hB
  have hS := hS1
  refine lv_aload_n hx hb dX1_takeFrom_75 rfl (lv_at hl 1 rfl) ?_
  refine gCo_5 Cc hPu (tw_107 hts) dX1_takeFrom_76 ?_
  refine lv_iconst (v := 0) hx hb dX1_takeFrom_79 (by decide) ?_
  refine lv_aload_n hx hb dX1_takeFrom_80 rfl (lv_at hl 0 rfl) ?_
  refine gCo_5 Cc hPt (tw_107 hts) dX1_takeFrom_81 ?_
  refine lv_iconst (v := 0) hx hb dX1_takeFrom_84 (by decide) ?_
  refine lv_bipush (v := 6) hx hb dX1_takeFrom_85 (by decide) ?_
  refine cpCo_5 Cc hl.1 hPu hPt hIt hS ⟨6, by decide, rfl⟩ (tw_439 hts) (tw_441 hts) (tw_440 hts) (tw_77 hts) (Nat.le_of_ble_eq_true rfl) (Nat.le_of_ble_eq_true rfl) dX1_takeFrom_87 (fun H1 locs1 hB hS1 hk => ?_)
  have hPu := kp1 wCo_wl hPu hDj (i0 := 6) (by decide) hk
  have hPt := hB
  have hS := hS1
  refine lv_aload_n hx hb dX1_takeFrom_90 rfl (lv_at hl 1 rfl) ?_
  refine gCo_6 Cc hPu (tw_110 hts) dX1_takeFrom_91 ?_
  refine lv_iconst (v := 0) hx hb dX1_takeFrom_94 (by decide) ?_
  refine lv_aload_n hx hb dX1_takeFrom_95 rfl (lv_at hl 0 rfl) ?_
  refine gCo_6 Cc hPt (tw_110 hts) dX1_takeFrom_96 ?_
  refine lv_iconst (v := 0) hx hb dX1_takeFrom_99 (by decide) ?_
  refine lv_bipush (v := 10) hx hb dX1_takeFrom_100 (by decide) ?_
  refine cpCo_6 Cc hl.1 hPu hPt hIt hS ⟨7, by decide, rfl⟩ (tw_439 hts) (tw_441 hts) (tw_440 hts) (tw_77 hts) (Nat.le_of_ble_eq_true rfl) (Nat.le_of_ble_eq_true rfl) dX1_takeFrom_102 (fun H1 locs1 hB hS1 hk => ?_)
  have hPu := kp1 wCo_wl hPu hDj (i0 := 7) (by decide) hk
  have hPt := hB
  have hS := hS1
  refine lv_aload_n hx hb dX1_takeFrom_105 rfl (lv_at hl 0 rfl) ?_
  refine lv_aload_n hx hb dX1_takeFrom_106 rfl (lv_at hl 1 rfl) ?_
  refine gCo_7 Cc hPu (tw_112 hts) dX1_takeFrom_107 ?_
  refine uCo_7 Cc hPt hIt hS ⟨0, by decide, rfl⟩ (tw_112 hts) dX1_takeFrom_110 (fun H1 locs1 hB hS1 hk => ?_)
  have hPu := kp1 wCo_wl hPu hDj (i0 := 0) (by decide) hk
  have hPt := hB
  have hS := hS1
  refine lv_aload_n hx hb dX1_takeFrom_113 rfl (lv_at hl 0 rfl) ?_
  refine lv_aload_n hx hb dX1_takeFrom_114 rfl (lv_at hl 1 rfl) ?_
  refine gCo_8 Cc hPu (tw_116 hts) dX1_takeFrom_115 ?_
  refine uCo_8 Cc hPt hIt hS ⟨0, by decide, rfl⟩ (tw_116 hts) dX1_takeFrom_118 (fun H1 locs1 hB hS1 hk => ?_)
  have hPu := kp1 wCo_wl hPu hDj (i0 := 0) (by decide) hk
  have hPt := hB
  have hS := hS1
  refine lv_aload_n hx hb dX1_takeFrom_121 rfl (lv_at hl 0 rfl) ?_
  refine lv_aload_n hx hb dX1_takeFrom_122 rfl (lv_at hl 1 rfl) ?_
  refine gCo_9 Cc hPu (tw_119 hts) dX1_takeFrom_123 ?_
  refine uCo_9 Cc hPt hIt hS ⟨0, by decide, rfl⟩ (tw_119 hts) dX1_takeFrom_126 (fun H1 locs1 hB hS1 hk => ?_)
  have hPu := kp1 wCo_wl hPu hDj (i0 := 0) (by decide) hk
  have hPt := hB
  have hS := hS1
  refine lv_aload_n hx hb dX1_takeFrom_129 rfl (lv_at hl 0 rfl) ?_
  refine lv_aload_n hx hb dX1_takeFrom_130 rfl (lv_at hl 1 rfl) ?_
  refine gCo_10 Cc hPu (tw_121 hts) dX1_takeFrom_131 ?_
  refine uCo_10 Cc hPt hIt hS ⟨0, by decide, rfl⟩ (tw_121 hts) dX1_takeFrom_134 (fun H1 locs1 hB hS1 hk => ?_)
  have hPu := kp1 wCo_wl hPu hDj (i0 := 0) (by decide) hk
  have hPt := hB
  have hS := hS1
  rw [wCo_take] at hPt
  exact W.vret hx hb hr (fun t ht _ => QWv.mk (u := σ2) h hPt hS ht) hS.2.2 dX1_takeFrom_137 (hlocks := hlk)
theorem qX1_takeFrom {R : Room} {s : State} {args : Array Value} {own : String} {idx : Nat} (hts : ∀ w ∈ gG, w.before args s = true) (hl : (Cond.methodLink own idx yX1_takeFrom).before args s = true) (hR : rX1_takeFrom.frames + 1 ≤ R.frames ∧ 8 + (2 + 11) + rX1_takeFrom.locals ≤ R.locals) : CallW R s args own RX1 idx yX1_takeFrom cX1_takeFrom 2 none (wz yX1_takeFrom cX1_takeFrom 2 none) rX1_takeFrom 0 0 1 := ⟨kw 1 hts mw_438 rfl rfl (tw_71 hts) hl (by decide +kernel) hR, tw_436 hts, tw_437 hts⟩
abbrev rX1_has : Room := { frames := 0, cells := 0, slots := 0, locals := 0 }
def pX1_has_17 (σ : Mx) (Q : Int32 → Prop) (y0 : Int32) : Prop := (y0 = 0 ∨ y0 = 1) ∧ (Q y0)
def pX1_has_16 (σ : Mx) (Q : Int32 → Prop)  : Prop := pX1_has_17 σ Q 0
def pX1_has (σ : Mx) (x1 : Int32) (Q : Int32 → Prop) : Prop := (x1 < 0 → (pX1_has_16 σ Q )) ∧ (¬ x1 < 0 → (((σ 8 0) ≤ x1 → (pX1_has_16 σ Q )) ∧ (¬ (σ 8 0) ≤ x1 → (pX1_has_17 σ Q 1))))
set_option maxHeartbeats 4000000 in
set_option maxRecDepth 100000 in
theorem bX1_has_17 {p : Program} {l : Launch} {e : Env} {s : State} {m : MethodId} {args : Array Value} {below : List Frame} {meth : Method} {c : Code} {D : va_G} {κ : Nat → ClassId} {a : Nat → Nat} {σ : Mx}  {Q : Int32 → Prop} (Cc : Cx D κ RX1 cX1_has 2 (some .boolean) p s m args meth c)  (hPt : va_P D classes (wCo κ a σ) s.heap)  : ∀ (y0 : Int32) (ls : Array Slot) (hl : lv_has ls 2 []) (h : pX1_has_17 σ Q y0), W p l e rX1_has s m args below meth c s.heap [] 0 0 (MQ below (RQ Q) args s 0 0 (fun _ => False)) (F0 m 17 ls [.int y0]) := by
  obtain ⟨hx, hb, hml, hown, hts, hr, hlk, hE⟩ := id Cc
  intro y0 ls hl h
  unfold pX1_has_17 at h
  exact W.zret (v := y0) (ty := .boolean) hx hb hr (bool_nar h.1) (fun t ht _ => RQ.mk h.2 ht) (fun _ h9 => by cases h9) dX1_has_17 (hlocks := hlk)
set_option maxHeartbeats 4000000 in
set_option maxRecDepth 100000 in
theorem bX1_has_16 {p : Program} {l : Launch} {e : Env} {s : State} {m : MethodId} {args : Array Value} {below : List Frame} {meth : Method} {c : Code} {D : va_G} {κ : Nat → ClassId} {a : Nat → Nat} {σ : Mx}  {Q : Int32 → Prop} (Cc : Cx D κ RX1 cX1_has 2 (some .boolean) p s m args meth c)  (hPt : va_P D classes (wCo κ a σ) s.heap)  : ∀ (ls : Array Slot) (hl : lv_has ls 2 []) (h : pX1_has_16 σ Q ), W p l e rX1_has s m args below meth c s.heap [] 0 0 (MQ below (RQ Q) args s 0 0 (fun _ => False)) (F0 m 16 ls []) := by
  obtain ⟨hx, hb, hml, hown, hts, hr, hlk, hE⟩ := id Cc
  intro ls hl h
  unfold pX1_has_16 at h
  refine lv_iconst (v := 0) hx hb dX1_has_16 (by decide) ?_
  exact bX1_has_17 Cc hPt 0  _ (lv_sub hl [] rfl) h
set_option maxHeartbeats 4000000 in
set_option maxRecDepth 100000 in
theorem mX1_has (l : Launch) (D : va_G) (κ : Nat → ClassId) (a : Nat → Nat) {σ : Mx} {x1 : Int32} {Q : Int32 → Prop}  (h : pX1_has σ x1 Q) : Met l yX1_has (wz yX1_has cX1_has 2 (some .boolean)) rX1_has (va_Pc [.ref (a 0), .int x1] (PE D κ (fun H => va_P D classes (wCo κ a σ) H))) (RQ Q) 0 0 (fun _ => False) := by
  refine Met_of l (own := RX1) (by decide) rfl (Nat.le_of_ble_eq_true rfl) (fun p e s m below meth c Cc hPP ls hl => ?_)
  obtain ⟨hx, hb, hml, hown, hts, hr, hlk, hE⟩ := id Cc
  have hl : lv_has ls 2 [(0, .ref (a 0)), (1, .int x1)] := hl
  have hPt := hPP
  unfold pX1_has at h
  refine lv_iload_n hx hb dX1_has_0 rfl (lv_at hl 1 rfl) ?_
  refine lv_if_lt (tgt := 16) hx hb dX1_has_1 (by decide) (fun c1 => ?_) (fun c1 => ?_)
  · have h := h.1 c1
    exact bX1_has_16 Cc hPt   _ (lv_sub hl [] rfl) h
  · have h := h.2 c1
    refine lv_iload_n hx hb dX1_has_4 rfl (lv_at hl 1 rfl) ?_
    refine lv_aload_n hx hb dX1_has_5 rfl (lv_at hl 0 rfl) ?_
    refine gCo_8 Cc hPt (tw_116 hts) dX1_has_6 ?_
    refine lv_icmp_ge (tgt := 16) hx hb dX1_has_9 (by decide) (fun c9 => ?_) (fun c9 => ?_)
    · have h := h.1 c9
      exact bX1_has_16 Cc hPt   _ (lv_sub hl [] rfl) h
    · have h := h.2 c9
      refine lv_iconst (v := 1) hx hb dX1_has_12 (by decide) ?_
      refine lv_goto (tgt := 17) hx hb dX1_has_13 (by decide) ?_
      exact bX1_has_17 Cc hPt 1  _ (lv_sub hl [] rfl) h
theorem qX1_has {R : Room} {s : State} {args : Array Value} {own : String} {idx : Nat} (hts : ∀ w ∈ gG, w.before args s = true) (hl : (Cond.methodLink own idx yX1_has).before args s = true) (hR : rX1_has.frames + 1 ≤ R.frames ∧ 8 + (2 + 11) + rX1_has.locals ≤ R.locals) : CallW R s args own RX1 idx yX1_has cX1_has 2 (some .boolean) (wz yX1_has cX1_has 2 (some .boolean)) rX1_has 0 0 1 := ⟨kw 1 hts mw_274 rfl rfl (tw_71 hts) hl (by decide +kernel) hR, tw_272 hts, tw_273 hts⟩
abbrev rX1_addPiece : Room := { frames := 0, cells := 0, slots := 0, locals := 0 }
def pX1_addPiece (σ : Mx) (x1 : Int32) (x2 : Int32) (x3 : Int32) (Q : Int32 → Mx → Prop) : Prop := ∀ v4 : Int32, v4 = (σ 8 0) → (vp_in v4 8 ∧ (vp_in v4 8 ∧ (vp_in v4 8 ∧ (vp_in v4 8 ∧ (vp_in v4 8 ∧ (Q v4 (st (st (st (st (st (st σ 0 v4.toNatClampNeg x1) 1 v4.toNatClampNeg x2) 2 v4.toNatClampNeg x3) 3 v4.toNatClampNeg (-1)) 4 v4.toNatClampNeg v4) 8 0 (((st (st (st (st (st σ 0 v4.toNatClampNeg x1) 1 v4.toNatClampNeg x2) 2 v4.toNatClampNeg x3) 3 v4.toNatClampNeg (-1)) 4 v4.toNatClampNeg v4) 8 0) + 1))))))))
set_option maxHeartbeats 4000000 in
set_option maxRecDepth 100000 in
theorem mX1_addPiece (l : Launch) (D : va_G) (κ : Nat → ClassId) (a : Nat → Nat) {σ : Mx} {x1 : Int32} {x2 : Int32} {x3 : Int32} {Q : Int32 → Mx → Prop} (hIt : Ij a 8) (h : pX1_addPiece σ x1 x2 x3 Q) : Met l yX1_addPiece (wz yX1_addPiece cX1_addPiece 5 (some .int)) rX1_addPiece (va_Pc [.ref (a 0), .int x1, .int x2, .int x3] (PE D κ (fun H => va_P D classes (wCo κ a σ) H))) (QWi Q (fun u H => va_P D classes (wCo κ a u) H) (cA a 8)) 0 0 (cA a 8) := by
  refine Met_of l (own := RX1) (by decide) rfl (Nat.le_of_ble_eq_true rfl) (fun p e s m below meth c Cc hPP ls hl => ?_)
  obtain ⟨hx, hb, hml, hown, hts, hr, hlk, hE⟩ := id Cc
  have hl : lv_has ls 5 [(0, .ref (a 0)), (1, .int x1), (2, .int x2), (3, .int x3)] := hl
  have hPt := hPP
  have hS : va_S (cA a 8) s.heap s.heap [] := va_S.rf
  unfold pX1_addPiece at h
  refine lv_aload_n hx hb dX1_addPiece_0 rfl (lv_at hl 0 rfl) ?_
  refine gCo_8 Cc hPt (tw_116 hts) dX1_addPiece_1 ?_
  refine lv_topi (fun v4 e4 => ?_)
  have h := h v4 e4
  refine lv_istore (lv' := [(4, .int v4), (0, .ref (a 0)), (1, .int x1), (2, .int x2), (3, .int x3)]) hx hb dX1_addPiece_4 hl (by decide) rfl (fun ls hl => ?_)
  refine lv_aload_n hx hb dX1_addPiece_6 rfl (lv_at hl 1 rfl) ?_
  refine gCo_0 Cc hPt (tw_97 hts) dX1_addPiece_7 ?_
  refine lv_iload hx hb dX1_addPiece_10 (lv_at hl 0 rfl) ?_
  refine lv_iload_n hx hb dX1_addPiece_12 rfl (lv_at hl 2 rfl) ?_
  refine sCo_0 Cc hPt hIt hS ⟨1, by decide, rfl⟩ h.1 dX1_addPiece_13 (fun H1 locs1 hB hS1 hk => ?_)
  have h := h.2
  have hPt := hB
  have hS := hS1
  refine lv_aload_n hx hb dX1_addPiece_14 rfl (lv_at hl 1 rfl) ?_
  refine gCo_1 Cc hPt (tw_99 hts) dX1_addPiece_15 ?_
  refine lv_iload hx hb dX1_addPiece_18 (lv_at hl 0 rfl) ?_
  refine lv_iload_n hx hb dX1_addPiece_20 rfl (lv_at hl 3 rfl) ?_
  refine sCo_1 Cc hPt hIt hS ⟨2, by decide, rfl⟩ h.1 dX1_addPiece_21 (fun H1 locs1 hB hS1 hk => ?_)
  have h := h.2
  have hPt := hB
  have hS := hS1
  refine lv_aload_n hx hb dX1_addPiece_22 rfl (lv_at hl 1 rfl) ?_
  refine gCo_2 Cc hPt (tw_101 hts) dX1_addPiece_23 ?_
  refine lv_iload hx hb dX1_addPiece_26 (lv_at hl 0 rfl) ?_
  refine lv_iload_n hx hb dX1_addPiece_28 rfl (lv_at hl 4 rfl) ?_
  refine sCo_2 Cc hPt hIt hS ⟨3, by decide, rfl⟩ h.1 dX1_addPiece_29 (fun H1 locs1 hB hS1 hk => ?_)
  have h := h.2
  have hPt := hB
  have hS := hS1
  refine lv_aload_n hx hb dX1_addPiece_30 rfl (lv_at hl 1 rfl) ?_
  refine gCo_3 Cc hPt (tw_103 hts) dX1_addPiece_31 ?_
  refine lv_iload hx hb dX1_addPiece_34 (lv_at hl 0 rfl) ?_
  refine lv_iconst (v := (-1)) hx hb dX1_addPiece_36 (by decide) ?_
  refine sCo_3 Cc hPt hIt hS ⟨4, by decide, rfl⟩ h.1 dX1_addPiece_37 (fun H1 locs1 hB hS1 hk => ?_)
  have h := h.2
  have hPt := hB
  have hS := hS1
  refine lv_aload_n hx hb dX1_addPiece_38 rfl (lv_at hl 1 rfl) ?_
  refine gCo_4 Cc hPt (tw_105 hts) dX1_addPiece_39 ?_
  refine lv_iload hx hb dX1_addPiece_42 (lv_at hl 0 rfl) ?_
  refine lv_iload hx hb dX1_addPiece_44 (lv_at hl 0 rfl) ?_
  refine sCo_4 Cc hPt hIt hS ⟨5, by decide, rfl⟩ h.1 dX1_addPiece_46 (fun H1 locs1 hB hS1 hk => ?_)
  have h := h.2
  have hPt := hB
  have hS := hS1
  refine lv_aload_n hx hb dX1_addPiece_47 rfl (lv_at hl 1 rfl) ?_
  refine lv_dup hx hb dX1_addPiece_48 rfl ?_
  refine gCo_8 Cc hPt (tw_116 hts) dX1_addPiece_49 ?_
  refine lv_iconst (v := 1) hx hb dX1_addPiece_52 (by decide) ?_
  refine lv_iadd hx hb dX1_addPiece_53 ?_
  refine uCo_8 Cc hPt hIt hS ⟨0, by decide, rfl⟩ (tw_116 hts) dX1_addPiece_54 (fun H1 locs1 hB hS1 hk => ?_)
  have hPt := hB
  have hS := hS1
  refine lv_iload hx hb dX1_addPiece_57 (lv_at hl 0 rfl) ?_
  exact W.iret (v := v4) hx hb hr (fun t ht _ => QWi.mk (u := (st (st (st (st (st (st σ 0 v4.toNatClampNeg x1) 1 v4.toNatClampNeg x2) 2 v4.toNatClampNeg x3) 3 v4.toNatClampNeg (-1)) 4 v4.toNatClampNeg v4) 8 0 (((st (st (st (st (st σ 0 v4.toNatClampNeg x1) 1 v4.toNatClampNeg x2) 2 v4.toNatClampNeg x3) 3 v4.toNatClampNeg (-1)) 4 v4.toNatClampNeg v4) 8 0) + 1))) h hPt hS ht) hS.2.2 dX1_addPiece_59 (hlocks := hlk)
theorem qX1_addPiece {R : Room} {s : State} {args : Array Value} {own : String} {idx : Nat} (hts : ∀ w ∈ gG, w.before args s = true) (hl : (Cond.methodLink own idx yX1_addPiece).before args s = true) (hR : rX1_addPiece.frames + 1 ≤ R.frames ∧ 8 + (5 + 11) + rX1_addPiece.locals ≤ R.locals) : CallW R s args own RX1 idx yX1_addPiece cX1_addPiece 5 (some .int) (wz yX1_addPiece cX1_addPiece 5 (some .int)) rX1_addPiece 0 0 3 := ⟨kw 3 hts mw_266 rfl rfl (tw_71 hts) hl (by decide +kernel) hR, tw_264 hts, tw_265 hts⟩
abbrev rX1_placeOf : Room := { frames := 0, cells := 0, slots := 0, locals := 0 }
def pX1_placeOf_26 (σ : Mx) (Q : Int32 → Prop) (x2 : Int32) : Prop := Q x2
def pX1_placeOf_2s (σ : Mx) (ih2 : Int32 → Int32 → Prop) (Q : Int32 → Prop) (x1 : Int32) (x2 : Int32) : Prop := ((σ 8 0) ≤ x2 → (pX1_placeOf_26 σ Q x2)) ∧ (¬ (σ 8 0) ≤ x2 → (vp_in x2 8 ∧ (((σ 4 x2.toNatClampNeg) = x1 → (pX1_placeOf_26 σ Q x2)) ∧ (¬ (σ 4 x2.toNatClampNeg) = x1 → (ih2 x1 (x2 + 1))))))
noncomputable def pX1_placeOf_2 (σ : Mx) (Q : Int32 → Prop) (n : Nat) : Int32 → Int32 → Prop := Nat.rec (motive := fun _ => Int32 → Int32 → Prop) (fun _ _ => False) (fun _ ih => pX1_placeOf_2s σ ih Q) n
def pX1_placeOf (σ : Mx) (x1 : Int32) (Q : Int32 → Prop) : Prop := ∃ n, pX1_placeOf_2 σ Q n x1 0
set_option maxHeartbeats 4000000 in
set_option maxRecDepth 100000 in
theorem bX1_placeOf_26 {p : Program} {l : Launch} {e : Env} {s : State} {m : MethodId} {args : Array Value} {below : List Frame} {meth : Method} {c : Code} {D : va_G} {κ : Nat → ClassId} {a : Nat → Nat} {σ : Mx}  {Q : Int32 → Prop} (Cc : Cx D κ RX1 cX1_placeOf 3 (some .int) p s m args meth c)  (hPt : va_P D classes (wCo κ a σ) s.heap)  : ∀ (x2 : Int32) (ls : Array Slot) (hl : lv_has ls 3 [(2, .int x2)]) (h : pX1_placeOf_26 σ Q x2), W p l e rX1_placeOf s m args below meth c s.heap [] 0 0 (MQ below (RQ Q) args s 0 0 (fun _ => False)) (F0 m 26 ls []) := by
  obtain ⟨hx, hb, hml, hown, hts, hr, hlk, hE⟩ := id Cc
  intro x2 ls hl h
  unfold pX1_placeOf_26 at h
  refine lv_iload_n hx hb dX1_placeOf_26 rfl (lv_at hl 0 rfl) ?_
  exact W.iret (v := x2) hx hb hr (fun t ht _ => RQ.mk h ht) (fun _ h9 => by cases h9) dX1_placeOf_27 (hlocks := hlk)
set_option maxHeartbeats 4000000 in
set_option maxRecDepth 100000 in
theorem bX1_placeOf_2 {p : Program} {l : Launch} {e : Env} {s : State} {m : MethodId} {args : Array Value} {below : List Frame} {meth : Method} {c : Code} {D : va_G} {κ : Nat → ClassId} {a : Nat → Nat} {σ : Mx}  {Q : Int32 → Prop} (Cc : Cx D κ RX1 cX1_placeOf 3 (some .int) p s m args meth c)  (hPt : va_P D classes (wCo κ a σ) s.heap)  (n : Nat) : ∀ (x1 : Int32) (x2 : Int32) (ls : Array Slot) (hl : lv_has ls 3 [(0, .ref (a 0)), (1, .int x1), (2, .int x2)]) (h : pX1_placeOf_2 σ Q n x1 x2), W p l e rX1_placeOf s m args below meth c s.heap [] 0 0 (MQ below (RQ Q) args s 0 0 (fun _ => False)) (F0 m 2 ls []) := by
  obtain ⟨hx, hb, hml, hown, hts, hr, hlk, hE⟩ := id Cc
  induction n with
  | zero =>
    intro x1 x2 ls hl h
    exact absurd h (fun z => z)
  | succ n hih2 =>
    intro x1 x2 ls hl h
    have h : pX1_placeOf_2s σ (pX1_placeOf_2 σ Q n) Q x1 x2 := h
    unfold pX1_placeOf_2s at h
    refine lv_iload_n hx hb dX1_placeOf_2 rfl (lv_at hl 2 rfl) ?_
    refine lv_aload_n hx hb dX1_placeOf_3 rfl (lv_at hl 0 rfl) ?_
    refine gCo_8 Cc hPt (tw_116 hts) dX1_placeOf_4 ?_
    refine lv_icmp_ge (tgt := 26) hx hb dX1_placeOf_7 (by decide) (fun c7 => ?_) (fun c7 => ?_)
    · have h := h.1 c7
      exact bX1_placeOf_26 Cc hPt x2  _ (lv_sub hl [2] rfl) h
    · have h := h.2 c7
      refine lv_aload_n hx hb dX1_placeOf_10 rfl (lv_at hl 0 rfl) ?_
      refine gCo_4 Cc hPt (tw_105 hts) dX1_placeOf_11 ?_
      refine lv_iload_n hx hb dX1_placeOf_14 rfl (lv_at hl 2 rfl) ?_
      refine lCo_4 Cc hPt h.1 dX1_placeOf_15 ?_
      have h := h.2
      refine lv_iload_n hx hb dX1_placeOf_16 rfl (lv_at hl 1 rfl) ?_
      refine lv_icmp_eq (tgt := 26) hx hb dX1_placeOf_17 (by decide) (fun c17 => ?_) (fun c17 => ?_)
      · have h := h.1 c17
        exact bX1_placeOf_26 Cc hPt x2  _ (lv_sub hl [2] rfl) h
      · have h := h.2 c17
        refine lv_iinc (v := (x2 + 1)) (lv' := [(2, .int (x2 + 1)), (0, .ref (a 0)), (1, .int x1)]) hx hb dX1_placeOf_20 hl (k := 2) rfl rfl (by decide) rfl (fun ls hl => ?_)
        refine lv_goto (tgt := 2) hx hb dX1_placeOf_23 (by decide) ?_
        exact hih2 x1 (x2 + 1)  _ (lv_sub hl [1, 2, 0] rfl) h
set_option maxHeartbeats 4000000 in
set_option maxRecDepth 100000 in
theorem mX1_placeOf (l : Launch) (D : va_G) (κ : Nat → ClassId) (a : Nat → Nat) {σ : Mx} {x1 : Int32} {Q : Int32 → Prop}  (h : pX1_placeOf σ x1 Q) : Met l yX1_placeOf (wz yX1_placeOf cX1_placeOf 3 (some .int)) rX1_placeOf (va_Pc [.ref (a 0), .int x1] (PE D κ (fun H => va_P D classes (wCo κ a σ) H))) (RQ Q) 0 0 (fun _ => False) := by
  refine Met_of l (own := RX1) (by decide) rfl (Nat.le_of_ble_eq_true rfl) (fun p e s m below meth c Cc hPP ls hl => ?_)
  obtain ⟨hx, hb, hml, hown, hts, hr, hlk, hE⟩ := id Cc
  have hl : lv_has ls 3 [(0, .ref (a 0)), (1, .int x1)] := hl
  have hPt := hPP
  unfold pX1_placeOf at h
  refine lv_iconst (v := 0) hx hb dX1_placeOf_0 (by decide) ?_
  refine lv_istore_n (lv' := [(2, .int 0), (0, .ref (a 0)), (1, .int x1)]) hx hb dX1_placeOf_1 rfl hl (by decide) rfl (fun ls hl => ?_)
  obtain ⟨n, h⟩ := h
  exact bX1_placeOf_2 Cc hPt n x1 0  _ (lv_sub hl [1, 2, 0] rfl) h
theorem qX1_placeOf {R : Room} {s : State} {args : Array Value} {own : String} {idx : Nat} (hts : ∀ w ∈ gG, w.before args s = true) (hl : (Cond.methodLink own idx yX1_placeOf).before args s = true) (hR : rX1_placeOf.frames + 1 ≤ R.frames ∧ 8 + (3 + 11) + rX1_placeOf.locals ≤ R.locals) : CallW R s args own RX1 idx yX1_placeOf cX1_placeOf 3 (some .int) (wz yX1_placeOf cX1_placeOf 3 (some .int)) rX1_placeOf 0 0 1 := ⟨kw 1 hts mw_282 rfl rfl (tw_71 hts) hl (by decide +kernel) hR, tw_280 hts, tw_281 hts⟩
abbrev rX1_growsOf : Room := { frames := 0, cells := 0, slots := 0, locals := 0 }
def pX1_growsOf_56 (σ : Mx) (Q : Int32 → Prop) (x2 : Int32) : Prop := Q (x2 - 1)
def pX1_growsOf (σ : Mx) (x1 : Int32) (Q : Int32 → Prop) : Prop := ∀ v5 : Int32, v5 = (1 + 2) → (∀ v9 : Int32, v9 = (v5 + 1) → (vp_in x1 8 ∧ (∀ v17 : Int32, v17 = (σ 0 x1.toNatClampNeg) → ((v17 = 1 → (pX1_growsOf_56 σ Q 1)) ∧ (v17 = 2 → (Q v5)) ∧ (v17 = 3 → (Q v9)) ∧ (v17 = 4 → (Q (2 * v9))) ∧ (v17 = 5 → (Q 0)) ∧ (v17 = 6 → (pX1_growsOf_56 σ Q 1)) ∧ (¬ v17 = 1 → ¬ v17 = 2 → ¬ v17 = 3 → ¬ v17 = 4 → ¬ v17 = 5 → ¬ v17 = 6 → (Q 1))))))
set_option maxHeartbeats 4000000 in
set_option maxRecDepth 100000 in
theorem bX1_growsOf_56 {p : Program} {l : Launch} {e : Env} {s : State} {m : MethodId} {args : Array Value} {below : List Frame} {meth : Method} {c : Code} {D : va_G} {κ : Nat → ClassId} {a : Nat → Nat} {σ : Mx}  {Q : Int32 → Prop} (Cc : Cx D κ RX1 cX1_growsOf 5 (some .int) p s m args meth c)  (hPt : va_P D classes (wCo κ a σ) s.heap)  : ∀ (x2 : Int32) (ls : Array Slot) (hl : lv_has ls 5 [(2, .int x2)]) (h : pX1_growsOf_56 σ Q x2), W p l e rX1_growsOf s m args below meth c s.heap [] 0 0 (MQ below (RQ Q) args s 0 0 (fun _ => False)) (F0 m 56 ls []) := by
  obtain ⟨hx, hb, hml, hown, hts, hr, hlk, hE⟩ := id Cc
  intro x2 ls hl h
  unfold pX1_growsOf_56 at h
  refine lv_iload_n hx hb dX1_growsOf_56 rfl (lv_at hl 0 rfl) ?_
  refine lv_iconst (v := 1) hx hb dX1_growsOf_57 (by decide) ?_
  refine lv_isub hx hb dX1_growsOf_58 ?_
  exact W.iret (v := (x2 - 1)) hx hb hr (fun t ht _ => RQ.mk h ht) (fun _ h9 => by cases h9) dX1_growsOf_59 (hlocks := hlk)
set_option maxHeartbeats 4000000 in
set_option maxRecDepth 100000 in
theorem mX1_growsOf (l : Launch) (D : va_G) (κ : Nat → ClassId) (a : Nat → Nat) {σ : Mx} {x1 : Int32} {Q : Int32 → Prop}  (h : pX1_growsOf σ x1 Q) : Met l yX1_growsOf (wz yX1_growsOf cX1_growsOf 5 (some .int)) rX1_growsOf (va_Pc [.ref (a 0), .int x1] (PE D κ (fun H => va_P D classes (wCo κ a σ) H))) (RQ Q) 0 0 (fun _ => False) := by
  refine Met_of l (own := RX1) (by decide) rfl (Nat.le_of_ble_eq_true rfl) (fun p e s m below meth c Cc hPP ls hl => ?_)
  obtain ⟨hx, hb, hml, hown, hts, hr, hlk, hE⟩ := id Cc
  have hl : lv_has ls 5 [(0, .ref (a 0)), (1, .int x1)] := hl
  have hPt := hPP
  unfold pX1_growsOf at h
  refine lv_iconst (v := 1) hx hb dX1_growsOf_0 (by decide) ?_
  refine lv_istore_n (lv' := [(2, .int 1), (0, .ref (a 0)), (1, .int x1)]) hx hb dX1_growsOf_1 rfl hl (by decide) rfl (fun ls hl => ?_)
  refine lv_iload_n hx hb dX1_growsOf_2 rfl (lv_at hl 0 rfl) ?_
  refine lv_iconst (v := 2) hx hb dX1_growsOf_3 (by decide) ?_
  refine lv_iadd hx hb dX1_growsOf_4 ?_
  refine lv_topi (fun v5 e5 => ?_)
  have h := h v5 e5
  refine lv_istore_n (lv' := [(3, .int v5), (2, .int 1), (0, .ref (a 0)), (1, .int x1)]) hx hb dX1_growsOf_5 rfl hl (by decide) rfl (fun ls hl => ?_)
  refine lv_iload_n hx hb dX1_growsOf_6 rfl (lv_at hl 0 rfl) ?_
  refine lv_iconst (v := 1) hx hb dX1_growsOf_7 (by decide) ?_
  refine lv_iadd hx hb dX1_growsOf_8 ?_
  refine lv_topi (fun v9 e9 => ?_)
  have h := h v9 e9
  refine lv_istore (lv' := [(4, .int v9), (3, .int v5), (2, .int 1), (0, .ref (a 0)), (1, .int x1)]) hx hb dX1_growsOf_9 hl (by decide) rfl (fun ls hl => ?_)
  refine lv_aload_n hx hb dX1_growsOf_11 rfl (lv_at hl 3 rfl) ?_
  refine gCo_0 Cc hPt (tw_97 hts) dX1_growsOf_12 ?_
  refine lv_iload_n hx hb dX1_growsOf_15 rfl (lv_at hl 4 rfl) ?_
  refine lCo_0 Cc hPt h.1 dX1_growsOf_16 ?_
  have h := h.2
  refine lv_topi (fun v17 e17 => ?_)
  have h := h v17 e17
  by_cases c17_1 : v17 = 1
  · have h := h.1 c17_1
    refine lv_tableIn (tgt := 56) hx hb dX1_growsOf_17 (by rw [c17_1]; decide) (by rw [c17_1]; decide) (by rw [c17_1]; rfl) (by decide) ?_
    exact bX1_growsOf_56 Cc hPt 1  _ (lv_sub hl [2] rfl) h
  · have h := h.2
    by_cases c17_2 : v17 = 2
    · have h := h.1 c17_2
      refine lv_tableIn (tgt := 60) hx hb dX1_growsOf_17 (by rw [c17_2]; decide) (by rw [c17_2]; decide) (by rw [c17_2]; rfl) (by decide) ?_
      refine lv_iload_n hx hb dX1_growsOf_60 rfl (lv_at hl 1 rfl) ?_
      exact W.iret (v := v5) hx hb hr (fun t ht _ => RQ.mk h ht) (fun _ h9 => by cases h9) dX1_growsOf_61 (hlocks := hlk)
    · have h := h.2
      by_cases c17_3 : v17 = 3
      · have h := h.1 c17_3
        refine lv_tableIn (tgt := 62) hx hb dX1_growsOf_17 (by rw [c17_3]; decide) (by rw [c17_3]; decide) (by rw [c17_3]; rfl) (by decide) ?_
        refine lv_iload hx hb dX1_growsOf_62 (lv_at hl 0 rfl) ?_
        exact W.iret (v := v9) hx hb hr (fun t ht _ => RQ.mk h ht) (fun _ h9 => by cases h9) dX1_growsOf_64 (hlocks := hlk)
      · have h := h.2
        by_cases c17_4 : v17 = 4
        · have h := h.1 c17_4
          refine lv_tableIn (tgt := 65) hx hb dX1_growsOf_17 (by rw [c17_4]; decide) (by rw [c17_4]; decide) (by rw [c17_4]; rfl) (by decide) ?_
          refine lv_iconst (v := 2) hx hb dX1_growsOf_65 (by decide) ?_
          refine lv_iload hx hb dX1_growsOf_66 (lv_at hl 0 rfl) ?_
          refine lv_imul hx hb dX1_growsOf_68 ?_
          exact W.iret (v := (2 * v9)) hx hb hr (fun t ht _ => RQ.mk h ht) (fun _ h9 => by cases h9) dX1_growsOf_69 (hlocks := hlk)
        · have h := h.2
          by_cases c17_5 : v17 = 5
          · have h := h.1 c17_5
            refine lv_tableIn (tgt := 70) hx hb dX1_growsOf_17 (by rw [c17_5]; decide) (by rw [c17_5]; decide) (by rw [c17_5]; rfl) (by decide) ?_
            refine lv_iconst (v := 0) hx hb dX1_growsOf_70 (by decide) ?_
            exact W.iret (v := 0) hx hb hr (fun t ht _ => RQ.mk h ht) (fun _ h9 => by cases h9) dX1_growsOf_71 (hlocks := hlk)
          · have h := h.2
            by_cases c17_6 : v17 = 6
            · have h := h.1 c17_6
              refine lv_tableIn (tgt := 56) hx hb dX1_growsOf_17 (by rw [c17_6]; decide) (by rw [c17_6]; decide) (by rw [c17_6]; rfl) (by decide) ?_
              exact bX1_growsOf_56 Cc hPt 1  _ (lv_sub hl [2] rfl) h
            · have h := h.2
              have h := h c17_1 c17_2 c17_3 c17_4 c17_5 c17_6
              refine lv_tableOut (tgt := 72) hx hb dX1_growsOf_17 (by have h1 := ne_toInt c17_1 (z := 1) (by decide); have h2 := ne_toInt c17_2 (z := 2) (by decide); have h3 := ne_toInt c17_3 (z := 3) (by decide); have h4 := ne_toInt c17_4 (z := 4) (by decide); have h5 := ne_toInt c17_5 (z := 5) (by decide); have h6 := ne_toInt c17_6 (z := 6) (by decide); omega) (by decide) ?_
              refine lv_iload_n hx hb dX1_growsOf_72 rfl (lv_at hl 2 rfl) ?_
              exact W.iret (v := 1) hx hb hr (fun t ht _ => RQ.mk h ht) (fun _ h9 => by cases h9) dX1_growsOf_73 (hlocks := hlk)
theorem qX1_growsOf {R : Room} {s : State} {args : Array Value} {own : String} {idx : Nat} (hts : ∀ w ∈ gG, w.before args s = true) (hl : (Cond.methodLink own idx yX1_growsOf).before args s = true) (hR : rX1_growsOf.frames + 1 ≤ R.frames ∧ 8 + (5 + 11) + rX1_growsOf.locals ≤ R.locals) : CallW R s args own RX1 idx yX1_growsOf cX1_growsOf 5 (some .int) (wz yX1_growsOf cX1_growsOf 5 (some .int)) rX1_growsOf 0 0 1 := ⟨kw 1 hts mw_286 rfl rfl (tw_71 hts) hl (by decide +kernel) hR, tw_284 hts, tw_285 hts⟩
abbrev rX1_told : Room := { frames := 1, cells := 0, slots := 0, locals := 24 }
def pX1_told (σ : Mx) (x1 : Int32) (x2 : Int32) (Q : Int32 → Prop) : Prop := (x2 = 0 → (vp_in x1 8 ∧ (Q (σ 0 x1.toNatClampNeg)))) ∧ (x2 = 1 → (vp_in x1 8 ∧ (Q (σ 1 x1.toNatClampNeg)))) ∧ (x2 = 2 → (vp_in x1 8 ∧ (Q (σ 2 x1.toNatClampNeg)))) ∧ (x2 = 3 → (vp_in x1 8 ∧ (Q (σ 3 x1.toNatClampNeg)))) ∧ (x2 = 4 → (Q (((σ 7 0) >>> (x1 &&& 31)) &&& 1))) ∧ (x2 = 5 → (pX1_placeOf σ x1 (fun r79 => (Q r79)))) ∧ (¬ x2 = 0 → ¬ x2 = 1 → ¬ x2 = 2 → ¬ x2 = 3 → ¬ x2 = 4 → ¬ x2 = 5 → (pX1_growsOf σ x1 (fun r85 => (Q r85))))
set_option maxHeartbeats 4000000 in
set_option maxRecDepth 100000 in
theorem mX1_told (l : Launch) (D : va_G) (κ : Nat → ClassId) (a : Nat → Nat) {σ : Mx} {x1 : Int32} {x2 : Int32} {Q : Int32 → Prop}  (h : pX1_told σ x1 x2 Q) : Met l yX1_told (wz yX1_told cX1_told 3 (some .int)) rX1_told (va_Pc [.ref (a 0), .int x1, .int x2] (PE D κ (fun H => va_P D classes (wCo κ a σ) H))) (RQ Q) 0 0 (fun _ => False) := by
  refine Met_of l (own := RX1) (by decide) rfl (Nat.le_of_ble_eq_true rfl) (fun p e s m below meth c Cc hPP ls hl => ?_)
  obtain ⟨hx, hb, hml, hown, hts, hr, hlk, hE⟩ := id Cc
  have hl : lv_has ls 3 [(0, .ref (a 0)), (1, .int x1), (2, .int x2)] := hl
  have hPt := hPP
  unfold pX1_told at h
  refine lv_iload_n hx hb dX1_told_0 rfl (lv_at hl 2 rfl) ?_
  by_cases c1_0 : x2 = 0
  · have h := h.1 c1_0
    refine lv_tableIn (tgt := 40) hx hb dX1_told_1 (by rw [c1_0]; decide) (by rw [c1_0]; decide) (by rw [c1_0]; rfl) (by decide) ?_
    refine lv_aload_n hx hb dX1_told_40 rfl (lv_at hl 0 rfl) ?_
    refine gCo_0 Cc hPt (tw_97 hts) dX1_told_41 ?_
    refine lv_iload_n hx hb dX1_told_44 rfl (lv_at hl 1 rfl) ?_
    refine lCo_0 Cc hPt h.1 dX1_told_45 ?_
    have h := h.2
    exact W.iret (v := (σ 0 x1.toNatClampNeg)) hx hb hr (fun t ht _ => RQ.mk h ht) (fun _ h9 => by cases h9) dX1_told_46 (hlocks := hlk)
  · have h := h.2
    by_cases c1_1 : x2 = 1
    · have h := h.1 c1_1
      refine lv_tableIn (tgt := 47) hx hb dX1_told_1 (by rw [c1_1]; decide) (by rw [c1_1]; decide) (by rw [c1_1]; rfl) (by decide) ?_
      refine lv_aload_n hx hb dX1_told_47 rfl (lv_at hl 0 rfl) ?_
      refine gCo_1 Cc hPt (tw_99 hts) dX1_told_48 ?_
      refine lv_iload_n hx hb dX1_told_51 rfl (lv_at hl 1 rfl) ?_
      refine lCo_1 Cc hPt h.1 dX1_told_52 ?_
      have h := h.2
      exact W.iret (v := (σ 1 x1.toNatClampNeg)) hx hb hr (fun t ht _ => RQ.mk h ht) (fun _ h9 => by cases h9) dX1_told_53 (hlocks := hlk)
    · have h := h.2
      by_cases c1_2 : x2 = 2
      · have h := h.1 c1_2
        refine lv_tableIn (tgt := 54) hx hb dX1_told_1 (by rw [c1_2]; decide) (by rw [c1_2]; decide) (by rw [c1_2]; rfl) (by decide) ?_
        refine lv_aload_n hx hb dX1_told_54 rfl (lv_at hl 0 rfl) ?_
        refine gCo_2 Cc hPt (tw_101 hts) dX1_told_55 ?_
        refine lv_iload_n hx hb dX1_told_58 rfl (lv_at hl 1 rfl) ?_
        refine lCo_2 Cc hPt h.1 dX1_told_59 ?_
        have h := h.2
        exact W.iret (v := (σ 2 x1.toNatClampNeg)) hx hb hr (fun t ht _ => RQ.mk h ht) (fun _ h9 => by cases h9) dX1_told_60 (hlocks := hlk)
      · have h := h.2
        by_cases c1_3 : x2 = 3
        · have h := h.1 c1_3
          refine lv_tableIn (tgt := 61) hx hb dX1_told_1 (by rw [c1_3]; decide) (by rw [c1_3]; decide) (by rw [c1_3]; rfl) (by decide) ?_
          refine lv_aload_n hx hb dX1_told_61 rfl (lv_at hl 0 rfl) ?_
          refine gCo_3 Cc hPt (tw_103 hts) dX1_told_62 ?_
          refine lv_iload_n hx hb dX1_told_65 rfl (lv_at hl 1 rfl) ?_
          refine lCo_3 Cc hPt h.1 dX1_told_66 ?_
          have h := h.2
          exact W.iret (v := (σ 3 x1.toNatClampNeg)) hx hb hr (fun t ht _ => RQ.mk h ht) (fun _ h9 => by cases h9) dX1_told_67 (hlocks := hlk)
        · have h := h.2
          by_cases c1_4 : x2 = 4
          · have h := h.1 c1_4
            refine lv_tableIn (tgt := 68) hx hb dX1_told_1 (by rw [c1_4]; decide) (by rw [c1_4]; decide) (by rw [c1_4]; rfl) (by decide) ?_
            refine lv_aload_n hx hb dX1_told_68 rfl (lv_at hl 0 rfl) ?_
            refine gCo_7 Cc hPt (tw_112 hts) dX1_told_69 ?_
            refine lv_iload_n hx hb dX1_told_72 rfl (lv_at hl 1 rfl) ?_
            refine lv_ishr hx hb dX1_told_73 ?_
            refine lv_iconst (v := 1) hx hb dX1_told_74 (by decide) ?_
            refine lv_iand hx hb dX1_told_75 ?_
            exact W.iret (v := (((σ 7 0) >>> (x1 &&& 31)) &&& 1)) hx hb hr (fun t ht _ => RQ.mk h ht) (fun _ h9 => by cases h9) dX1_told_76 (hlocks := hlk)
          · have h := h.2
            by_cases c1_5 : x2 = 5
            · have h := h.1 c1_5
              refine lv_tableIn (tgt := 77) hx hb dX1_told_1 (by rw [c1_5]; decide) (by rw [c1_5]; decide) (by rw [c1_5]; rfl) (by decide) ?_
              refine lv_aload_n hx hb dX1_told_77 rfl (lv_at hl 0 rfl) ?_
              refine lv_iload_n hx hb dX1_told_78 rfl (lv_at hl 1 rfl) ?_
              refine kR (kV Cc (mX1_placeOf l D κ a h) (qX1_placeOf hts (tw_279 hts) ⟨(Nat.le_of_ble_eq_true rfl), (Nat.le_of_ble_eq_true rfl)⟩) (va_recv hE.1 hPt (ci := 1) (q0 := 0) rfl rfl) (rest := []) hPt rfl hl.1 rfl (Nat.le_of_ble_eq_true rfl) dX1_told_79 ⟨Nat.zero_le _, Nat.zero_le _⟩) (fun r79 h => ?_)
              exact W.iret (v := r79) hx hb hr (fun t ht _ => RQ.mk h ht) (fun _ h9 => by cases h9) dX1_told_82 (hlocks := hlk)
            · have h := h.2
              have h := h c1_0 c1_1 c1_2 c1_3 c1_4 c1_5
              refine lv_tableOut (tgt := 83) hx hb dX1_told_1 (by have h0 := ne_toInt c1_0 (z := 0) (by decide); have h1 := ne_toInt c1_1 (z := 1) (by decide); have h2 := ne_toInt c1_2 (z := 2) (by decide); have h3 := ne_toInt c1_3 (z := 3) (by decide); have h4 := ne_toInt c1_4 (z := 4) (by decide); have h5 := ne_toInt c1_5 (z := 5) (by decide); omega) (by decide) ?_
              refine lv_aload_n hx hb dX1_told_83 rfl (lv_at hl 0 rfl) ?_
              refine lv_iload_n hx hb dX1_told_84 rfl (lv_at hl 1 rfl) ?_
              refine kR (kV Cc (mX1_growsOf l D κ a h) (qX1_growsOf hts (tw_283 hts) ⟨(Nat.le_of_ble_eq_true rfl), (Nat.le_of_ble_eq_true rfl)⟩) (va_recv hE.1 hPt (ci := 1) (q0 := 0) rfl rfl) (rest := []) hPt rfl hl.1 rfl (Nat.le_of_ble_eq_true rfl) dX1_told_85 ⟨Nat.zero_le _, Nat.zero_le _⟩) (fun r85 h => ?_)
              exact W.iret (v := r85) hx hb hr (fun t ht _ => RQ.mk h ht) (fun _ h9 => by cases h9) dX1_told_88 (hlocks := hlk)
theorem qX1_told {R : Room} {s : State} {args : Array Value} {own : String} {idx : Nat} (hts : ∀ w ∈ gG, w.before args s = true) (hl : (Cond.methodLink own idx yX1_told).before args s = true) (hR : rX1_told.frames + 1 ≤ R.frames ∧ 8 + (3 + 11) + rX1_told.locals ≤ R.locals) : CallW R s args own RX1 idx yX1_told cX1_told 3 (some .int) (wz yX1_told cX1_told 3 (some .int)) rX1_told 0 0 2 := ⟨kw 2 hts mw_278 rfl rfl (tw_71 hts) hl (by decide +kernel) hR, tw_276 hts, tw_277 hts⟩
abbrev rX1_become : Room := { frames := 0, cells := 0, slots := 0, locals := 0 }
def pX1_become_90 (Q : Mx → Prop) (σ : Mx) : Prop := Q σ
def pX1_become (σ : Mx) (x1 : Int32) (x2 : Int32) (x3 : Int32) (Q : Mx → Prop) : Prop := (x2 = 0 → (vp_in x1 8 ∧ (pX1_become_90 Q (st σ 0 x1.toNatClampNeg x3)))) ∧ (x2 = 1 → (vp_in x1 8 ∧ (pX1_become_90 Q (st σ 1 x1.toNatClampNeg x3)))) ∧ (x2 = 2 → (vp_in x1 8 ∧ (pX1_become_90 Q (st σ 2 x1.toNatClampNeg x3)))) ∧ (x2 = 3 → (vp_in x1 8 ∧ (pX1_become_90 Q (st σ 3 x1.toNatClampNeg x3)))) ∧ (¬ x2 = 0 → ¬ x2 = 1 → ¬ x2 = 2 → ¬ x2 = 3 → (pX1_become_90 Q (st σ 7 0 (((σ 7 0) &&& ((1 <<< (x1 &&& 31)) ^^^ (-1))) ||| (x3 <<< (x1 &&& 31))))))
set_option maxHeartbeats 4000000 in
set_option maxRecDepth 100000 in
theorem bX1_become_90 {p : Program} {l : Launch} {e : Env} {s : State} {m : MethodId} {args : Array Value} {below : List Frame} {meth : Method} {c : Code} {D : va_G} {κ : Nat → ClassId} {a : Nat → Nat}   {Q : Mx → Prop} (Cc : Cx D κ RX1 cX1_become 4 none p s m args meth c) (hIt : Ij a 8)   : ∀ (σ : Mx) (H : Heap) (locs : List Loc) (hPt : va_P D classes (wCo κ a σ) H) (hS : va_S (cA a 8) s.heap H locs) (ls : Array Slot) (hl : lv_has ls 4 []) (h : pX1_become_90 Q σ), W p l e rX1_become s m args below meth c H locs 0 0 (MQ below (QWv Q (fun u H => va_P D classes (wCo κ a u) H) (cA a 8)) args s 0 0 (cA a 8)) (F0 m 90 ls []) := by
  obtain ⟨hx, hb, hml, hown, hts, hr, hlk, hE⟩ := id Cc
  intro σ H locs hPt hS ls hl h
  unfold pX1_become_90 at h
  exact W.vret hx hb hr (fun t ht _ => QWv.mk (u := σ) h hPt hS ht) hS.2.2 dX1_become_90 (hlocks := hlk)
set_option maxHeartbeats 4000000 in
set_option maxRecDepth 100000 in
theorem mX1_become (l : Launch) (D : va_G) (κ : Nat → ClassId) (a : Nat → Nat) {σ : Mx} {x1 : Int32} {x2 : Int32} {x3 : Int32} {Q : Mx → Prop} (hIt : Ij a 8) (h : pX1_become σ x1 x2 x3 Q) : Met l yX1_become (wz yX1_become cX1_become 4 none) rX1_become (va_Pc [.ref (a 0), .int x1, .int x2, .int x3] (PE D κ (fun H => va_P D classes (wCo κ a σ) H))) (QWv Q (fun u H => va_P D classes (wCo κ a u) H) (cA a 8)) 0 0 (cA a 8) := by
  refine Met_of l (own := RX1) (by decide) rfl (Nat.le_of_ble_eq_true rfl) (fun p e s m below meth c Cc hPP ls hl => ?_)
  obtain ⟨hx, hb, hml, hown, hts, hr, hlk, hE⟩ := id Cc
  have hl : lv_has ls 4 [(0, .ref (a 0)), (1, .int x1), (2, .int x2), (3, .int x3)] := hl
  have hPt := hPP
  have hS : va_S (cA a 8) s.heap s.heap [] := va_S.rf
  unfold pX1_become at h
  refine lv_iload_n hx hb dX1_become_0 rfl (lv_at hl 2 rfl) ?_
  by_cases c1_0 : x2 = 0
  · have h := h.1 c1_0
    refine lv_tableIn (tgt := 32) hx hb dX1_become_1 (by rw [c1_0]; decide) (by rw [c1_0]; decide) (by rw [c1_0]; rfl) (by decide) ?_
    refine lv_aload_n hx hb dX1_become_32 rfl (lv_at hl 0 rfl) ?_
    refine gCo_0 Cc hPt (tw_97 hts) dX1_become_33 ?_
    refine lv_iload_n hx hb dX1_become_36 rfl (lv_at hl 1 rfl) ?_
    refine lv_iload_n hx hb dX1_become_37 rfl (lv_at hl 3 rfl) ?_
    refine sCo_0 Cc hPt hIt hS ⟨1, by decide, rfl⟩ h.1 dX1_become_38 (fun H1 locs1 hB hS1 hk => ?_)
    have h := h.2
    have hPt := hB
    have hS := hS1
    refine lv_goto (tgt := 90) hx hb dX1_become_39 (by decide) ?_
    exact bX1_become_90 Cc hIt (st σ 0 x1.toNatClampNeg x3) _ _ hPt hS _ (lv_sub hl [] rfl) h
  · have h := h.2
    by_cases c1_1 : x2 = 1
    · have h := h.1 c1_1
      refine lv_tableIn (tgt := 42) hx hb dX1_become_1 (by rw [c1_1]; decide) (by rw [c1_1]; decide) (by rw [c1_1]; rfl) (by decide) ?_
      refine lv_aload_n hx hb dX1_become_42 rfl (lv_at hl 0 rfl) ?_
      refine gCo_1 Cc hPt (tw_99 hts) dX1_become_43 ?_
      refine lv_iload_n hx hb dX1_become_46 rfl (lv_at hl 1 rfl) ?_
      refine lv_iload_n hx hb dX1_become_47 rfl (lv_at hl 3 rfl) ?_
      refine sCo_1 Cc hPt hIt hS ⟨2, by decide, rfl⟩ h.1 dX1_become_48 (fun H1 locs1 hB hS1 hk => ?_)
      have h := h.2
      have hPt := hB
      have hS := hS1
      refine lv_goto (tgt := 90) hx hb dX1_become_49 (by decide) ?_
      exact bX1_become_90 Cc hIt (st σ 1 x1.toNatClampNeg x3) _ _ hPt hS _ (lv_sub hl [] rfl) h
    · have h := h.2
      by_cases c1_2 : x2 = 2
      · have h := h.1 c1_2
        refine lv_tableIn (tgt := 52) hx hb dX1_become_1 (by rw [c1_2]; decide) (by rw [c1_2]; decide) (by rw [c1_2]; rfl) (by decide) ?_
        refine lv_aload_n hx hb dX1_become_52 rfl (lv_at hl 0 rfl) ?_
        refine gCo_2 Cc hPt (tw_101 hts) dX1_become_53 ?_
        refine lv_iload_n hx hb dX1_become_56 rfl (lv_at hl 1 rfl) ?_
        refine lv_iload_n hx hb dX1_become_57 rfl (lv_at hl 3 rfl) ?_
        refine sCo_2 Cc hPt hIt hS ⟨3, by decide, rfl⟩ h.1 dX1_become_58 (fun H1 locs1 hB hS1 hk => ?_)
        have h := h.2
        have hPt := hB
        have hS := hS1
        refine lv_goto (tgt := 90) hx hb dX1_become_59 (by decide) ?_
        exact bX1_become_90 Cc hIt (st σ 2 x1.toNatClampNeg x3) _ _ hPt hS _ (lv_sub hl [] rfl) h
      · have h := h.2
        by_cases c1_3 : x2 = 3
        · have h := h.1 c1_3
          refine lv_tableIn (tgt := 62) hx hb dX1_become_1 (by rw [c1_3]; decide) (by rw [c1_3]; decide) (by rw [c1_3]; rfl) (by decide) ?_
          refine lv_aload_n hx hb dX1_become_62 rfl (lv_at hl 0 rfl) ?_
          refine gCo_3 Cc hPt (tw_103 hts) dX1_become_63 ?_
          refine lv_iload_n hx hb dX1_become_66 rfl (lv_at hl 1 rfl) ?_
          refine lv_iload_n hx hb dX1_become_67 rfl (lv_at hl 3 rfl) ?_
          refine sCo_3 Cc hPt hIt hS ⟨4, by decide, rfl⟩ h.1 dX1_become_68 (fun H1 locs1 hB hS1 hk => ?_)
          have h := h.2
          have hPt := hB
          have hS := hS1
          refine lv_goto (tgt := 90) hx hb dX1_become_69 (by decide) ?_
          exact bX1_become_90 Cc hIt (st σ 3 x1.toNatClampNeg x3) _ _ hPt hS _ (lv_sub hl [] rfl) h
        · have h := h.2
          have h := h c1_0 c1_1 c1_2 c1_3
          refine lv_tableOut (tgt := 72) hx hb dX1_become_1 (by have h0 := ne_toInt c1_0 (z := 0) (by decide); have h1 := ne_toInt c1_1 (z := 1) (by decide); have h2 := ne_toInt c1_2 (z := 2) (by decide); have h3 := ne_toInt c1_3 (z := 3) (by decide); omega) (by decide) ?_
          refine lv_aload_n hx hb dX1_become_72 rfl (lv_at hl 0 rfl) ?_
          refine lv_aload_n hx hb dX1_become_73 rfl (lv_at hl 0 rfl) ?_
          refine gCo_7 Cc hPt (tw_112 hts) dX1_become_74 ?_
          refine lv_iconst (v := 1) hx hb dX1_become_77 (by decide) ?_
          refine lv_iload_n hx hb dX1_become_78 rfl (lv_at hl 1 rfl) ?_
          refine lv_ishl hx hb dX1_become_79 ?_
          refine lv_iconst (v := (-1)) hx hb dX1_become_80 (by decide) ?_
          refine lv_ixor hx hb dX1_become_81 ?_
          refine lv_iand hx hb dX1_become_82 ?_
          refine lv_iload_n hx hb dX1_become_83 rfl (lv_at hl 3 rfl) ?_
          refine lv_iload_n hx hb dX1_become_84 rfl (lv_at hl 1 rfl) ?_
          refine lv_ishl hx hb dX1_become_85 ?_
          refine lv_ior hx hb dX1_become_86 ?_
          refine uCo_7 Cc hPt hIt hS ⟨0, by decide, rfl⟩ (tw_112 hts) dX1_become_87 (fun H1 locs1 hB hS1 hk => ?_)
          have hPt := hB
          have hS := hS1
          exact bX1_become_90 Cc hIt (st σ 7 0 (((σ 7 0) &&& ((1 <<< (x1 &&& 31)) ^^^ (-1))) ||| (x3 <<< (x1 &&& 31)))) _ _ hPt hS _ (lv_sub hl [] rfl) h
theorem qX1_become {R : Room} {s : State} {args : Array Value} {own : String} {idx : Nat} (hts : ∀ w ∈ gG, w.before args s = true) (hl : (Cond.methodLink own idx yX1_become).before args s = true) (hR : rX1_become.frames + 1 ≤ R.frames ∧ 8 + (4 + 11) + rX1_become.locals ≤ R.locals) : CallW R s args own RX1 idx yX1_become cX1_become 4 none (wz yX1_become cX1_become 4 none) rX1_become 0 0 3 := ⟨kw 3 hts mw_297 rfl rfl (tw_71 hts) hl (by decide +kernel) hR, tw_295 hts, tw_296 hts⟩
abbrev rX1_shownLeft : Room := { frames := 0, cells := 0, slots := 0, locals := 0 }
def pX1_shownLeft_26 (σ : Mx) (Q : Int32 → Prop) (y0 : Int32) : Prop := Q y0
def pX1_shownLeft (σ : Mx) (x1 : Int32) (Q : Int32 → Prop) : Prop := (¬ (((σ 7 0) >>> (x1 &&& 31)) &&& 1) = 0 → (vp_in x1 8 ∧ (pX1_shownLeft_26 σ Q (σ 2 x1.toNatClampNeg)))) ∧ ((((σ 7 0) >>> (x1 &&& 31)) &&& 1) = 0 → (vp_in x1 8 ∧ (pX1_shownLeft_26 σ Q (σ 1 x1.toNatClampNeg))))
set_option maxHeartbeats 4000000 in
set_option maxRecDepth 100000 in
theorem bX1_shownLeft_26 {p : Program} {l : Launch} {e : Env} {s : State} {m : MethodId} {args : Array Value} {below : List Frame} {meth : Method} {c : Code} {D : va_G} {κ : Nat → ClassId} {a : Nat → Nat} {σ : Mx}  {Q : Int32 → Prop} (Cc : Cx D κ RX1 cX1_shownLeft 2 (some .int) p s m args meth c)  (hPt : va_P D classes (wCo κ a σ) s.heap)  : ∀ (y0 : Int32) (ls : Array Slot) (hl : lv_has ls 2 []) (h : pX1_shownLeft_26 σ Q y0), W p l e rX1_shownLeft s m args below meth c s.heap [] 0 0 (MQ below (RQ Q) args s 0 0 (fun _ => False)) (F0 m 26 ls [.int y0]) := by
  obtain ⟨hx, hb, hml, hown, hts, hr, hlk, hE⟩ := id Cc
  intro y0 ls hl h
  unfold pX1_shownLeft_26 at h
  exact W.iret (v := y0) hx hb hr (fun t ht _ => RQ.mk h ht) (fun _ h9 => by cases h9) dX1_shownLeft_26 (hlocks := hlk)
set_option maxHeartbeats 4000000 in
set_option maxRecDepth 100000 in
theorem mX1_shownLeft (l : Launch) (D : va_G) (κ : Nat → ClassId) (a : Nat → Nat) {σ : Mx} {x1 : Int32} {Q : Int32 → Prop}  (h : pX1_shownLeft σ x1 Q) : Met l yX1_shownLeft (wz yX1_shownLeft cX1_shownLeft 2 (some .int)) rX1_shownLeft (va_Pc [.ref (a 0), .int x1] (PE D κ (fun H => va_P D classes (wCo κ a σ) H))) (RQ Q) 0 0 (fun _ => False) := by
  refine Met_of l (own := RX1) (by decide) rfl (Nat.le_of_ble_eq_true rfl) (fun p e s m below meth c Cc hPP ls hl => ?_)
  obtain ⟨hx, hb, hml, hown, hts, hr, hlk, hE⟩ := id Cc
  have hl : lv_has ls 2 [(0, .ref (a 0)), (1, .int x1)] := hl
  have hPt := hPP
  unfold pX1_shownLeft at h
  refine lv_aload_n hx hb dX1_shownLeft_0 rfl (lv_at hl 0 rfl) ?_
  refine gCo_7 Cc hPt (tw_112 hts) dX1_shownLeft_1 ?_
  refine lv_iload_n hx hb dX1_shownLeft_4 rfl (lv_at hl 1 rfl) ?_
  refine lv_ishr hx hb dX1_shownLeft_5 ?_
  refine lv_iconst (v := 1) hx hb dX1_shownLeft_6 (by decide) ?_
  refine lv_iand hx hb dX1_shownLeft_7 ?_
  refine lv_if_ne (tgt := 20) hx hb dX1_shownLeft_8 (by decide) (fun c8 => ?_) (fun c8 => ?_)
  · have h := h.1 c8
    refine lv_aload_n hx hb dX1_shownLeft_20 rfl (lv_at hl 0 rfl) ?_
    refine gCo_2 Cc hPt (tw_101 hts) dX1_shownLeft_21 ?_
    refine lv_iload_n hx hb dX1_shownLeft_24 rfl (lv_at hl 1 rfl) ?_
    refine lCo_2 Cc hPt h.1 dX1_shownLeft_25 ?_
    have h := h.2
    exact bX1_shownLeft_26 Cc hPt (σ 2 x1.toNatClampNeg)  _ (lv_sub hl [] rfl) h
  · have h := h.2 c8
    refine lv_aload_n hx hb dX1_shownLeft_11 rfl (lv_at hl 0 rfl) ?_
    refine gCo_1 Cc hPt (tw_99 hts) dX1_shownLeft_12 ?_
    refine lv_iload_n hx hb dX1_shownLeft_15 rfl (lv_at hl 1 rfl) ?_
    refine lCo_1 Cc hPt h.1 dX1_shownLeft_16 ?_
    have h := h.2
    refine lv_goto (tgt := 26) hx hb dX1_shownLeft_17 (by decide) ?_
    exact bX1_shownLeft_26 Cc hPt (σ 1 x1.toNatClampNeg)  _ (lv_sub hl [] rfl) h
theorem qX1_shownLeft {R : Room} {s : State} {args : Array Value} {own : String} {idx : Nat} (hts : ∀ w ∈ gG, w.before args s = true) (hl : (Cond.methodLink own idx yX1_shownLeft).before args s = true) (hR : rX1_shownLeft.frames + 1 ≤ R.frames ∧ 8 + (2 + 11) + rX1_shownLeft.locals ≤ R.locals) : CallW R s args own RX1 idx yX1_shownLeft cX1_shownLeft 2 (some .int) (wz yX1_shownLeft cX1_shownLeft 2 (some .int)) rX1_shownLeft 0 0 1 := ⟨kw 1 hts mw_317 rfl rfl (tw_71 hts) hl (by decide +kernel) hR, tw_315 hts, tw_316 hts⟩
abbrev rX1_shownRight : Room := { frames := 0, cells := 0, slots := 0, locals := 0 }
def pX1_shownRight_26 (σ : Mx) (Q : Int32 → Prop) (y0 : Int32) : Prop := Q y0
def pX1_shownRight (σ : Mx) (x1 : Int32) (Q : Int32 → Prop) : Prop := (¬ (((σ 7 0) >>> (x1 &&& 31)) &&& 1) = 0 → (vp_in x1 8 ∧ (pX1_shownRight_26 σ Q (σ 1 x1.toNatClampNeg)))) ∧ ((((σ 7 0) >>> (x1 &&& 31)) &&& 1) = 0 → (vp_in x1 8 ∧ (pX1_shownRight_26 σ Q (σ 2 x1.toNatClampNeg))))
set_option maxHeartbeats 4000000 in
set_option maxRecDepth 100000 in
theorem bX1_shownRight_26 {p : Program} {l : Launch} {e : Env} {s : State} {m : MethodId} {args : Array Value} {below : List Frame} {meth : Method} {c : Code} {D : va_G} {κ : Nat → ClassId} {a : Nat → Nat} {σ : Mx}  {Q : Int32 → Prop} (Cc : Cx D κ RX1 cX1_shownRight 2 (some .int) p s m args meth c)  (hPt : va_P D classes (wCo κ a σ) s.heap)  : ∀ (y0 : Int32) (ls : Array Slot) (hl : lv_has ls 2 []) (h : pX1_shownRight_26 σ Q y0), W p l e rX1_shownRight s m args below meth c s.heap [] 0 0 (MQ below (RQ Q) args s 0 0 (fun _ => False)) (F0 m 26 ls [.int y0]) := by
  obtain ⟨hx, hb, hml, hown, hts, hr, hlk, hE⟩ := id Cc
  intro y0 ls hl h
  unfold pX1_shownRight_26 at h
  exact W.iret (v := y0) hx hb hr (fun t ht _ => RQ.mk h ht) (fun _ h9 => by cases h9) dX1_shownRight_26 (hlocks := hlk)
set_option maxHeartbeats 4000000 in
set_option maxRecDepth 100000 in
theorem mX1_shownRight (l : Launch) (D : va_G) (κ : Nat → ClassId) (a : Nat → Nat) {σ : Mx} {x1 : Int32} {Q : Int32 → Prop}  (h : pX1_shownRight σ x1 Q) : Met l yX1_shownRight (wz yX1_shownRight cX1_shownRight 2 (some .int)) rX1_shownRight (va_Pc [.ref (a 0), .int x1] (PE D κ (fun H => va_P D classes (wCo κ a σ) H))) (RQ Q) 0 0 (fun _ => False) := by
  refine Met_of l (own := RX1) (by decide) rfl (Nat.le_of_ble_eq_true rfl) (fun p e s m below meth c Cc hPP ls hl => ?_)
  obtain ⟨hx, hb, hml, hown, hts, hr, hlk, hE⟩ := id Cc
  have hl : lv_has ls 2 [(0, .ref (a 0)), (1, .int x1)] := hl
  have hPt := hPP
  unfold pX1_shownRight at h
  refine lv_aload_n hx hb dX1_shownRight_0 rfl (lv_at hl 0 rfl) ?_
  refine gCo_7 Cc hPt (tw_112 hts) dX1_shownRight_1 ?_
  refine lv_iload_n hx hb dX1_shownRight_4 rfl (lv_at hl 1 rfl) ?_
  refine lv_ishr hx hb dX1_shownRight_5 ?_
  refine lv_iconst (v := 1) hx hb dX1_shownRight_6 (by decide) ?_
  refine lv_iand hx hb dX1_shownRight_7 ?_
  refine lv_if_ne (tgt := 20) hx hb dX1_shownRight_8 (by decide) (fun c8 => ?_) (fun c8 => ?_)
  · have h := h.1 c8
    refine lv_aload_n hx hb dX1_shownRight_20 rfl (lv_at hl 0 rfl) ?_
    refine gCo_1 Cc hPt (tw_99 hts) dX1_shownRight_21 ?_
    refine lv_iload_n hx hb dX1_shownRight_24 rfl (lv_at hl 1 rfl) ?_
    refine lCo_1 Cc hPt h.1 dX1_shownRight_25 ?_
    have h := h.2
    exact bX1_shownRight_26 Cc hPt (σ 1 x1.toNatClampNeg)  _ (lv_sub hl [] rfl) h
  · have h := h.2 c8
    refine lv_aload_n hx hb dX1_shownRight_11 rfl (lv_at hl 0 rfl) ?_
    refine gCo_2 Cc hPt (tw_101 hts) dX1_shownRight_12 ?_
    refine lv_iload_n hx hb dX1_shownRight_15 rfl (lv_at hl 1 rfl) ?_
    refine lCo_2 Cc hPt h.1 dX1_shownRight_16 ?_
    have h := h.2
    refine lv_goto (tgt := 26) hx hb dX1_shownRight_17 (by decide) ?_
    exact bX1_shownRight_26 Cc hPt (σ 2 x1.toNatClampNeg)  _ (lv_sub hl [] rfl) h
theorem qX1_shownRight {R : Room} {s : State} {args : Array Value} {own : String} {idx : Nat} (hts : ∀ w ∈ gG, w.before args s = true) (hl : (Cond.methodLink own idx yX1_shownRight).before args s = true) (hR : rX1_shownRight.frames + 1 ≤ R.frames ∧ 8 + (2 + 11) + rX1_shownRight.locals ≤ R.locals) : CallW R s args own RX1 idx yX1_shownRight cX1_shownRight 2 (some .int) (wz yX1_shownRight cX1_shownRight 2 (some .int)) rX1_shownRight 0 0 1 := ⟨kw 1 hts mw_313 rfl rfl (tw_71 hts) hl (by decide +kernel) hR, tw_311 hts, tw_312 hts⟩
abbrev rX4_isOrUnder : Room := { frames := 0, cells := 0, slots := 0, locals := 0 }
def pX4_isOrUnder_50 (Q : Int32 → Prop) (y0 : Int32) : Prop := (y0 = 0 ∨ y0 = 1) ∧ (Q y0)
def pX4_isOrUnder_45 (Q : Int32 → Prop)  : Prop := pX4_isOrUnder_50 Q 1
def pX4_isOrUnder_71 (Q : Int32 → Prop) (y0 : Int32) : Prop := (y0 = 0 ∨ y0 = 1) ∧ (Q y0)
def pX4_isOrUnder_66 (Q : Int32 → Prop)  : Prop := pX4_isOrUnder_71 Q 1
def pX4_isOrUnder_87 (Q : Int32 → Prop) (y0 : Int32) : Prop := (y0 = 0 ∨ y0 = 1) ∧ (Q y0)
def pX4_isOrUnder_82 (Q : Int32 → Prop)  : Prop := pX4_isOrUnder_87 Q 1
def pX4_isOrUnder_98 (Q : Int32 → Prop) (y0 : Int32) : Prop := (y0 = 0 ∨ y0 = 1) ∧ (Q y0)
def pX4_isOrUnder  (x1 : Int32) (x2 : Int32) (Q : Int32 → Prop) : Prop := (x2 = 0 → (Q 1)) ∧ (x2 = 1 → ((x1 = 1 → (pX4_isOrUnder_45 Q )) ∧ (¬ x1 = 1 → ((¬ x1 = 6 → (pX4_isOrUnder_50 Q 0)) ∧ (x1 = 6 → (pX4_isOrUnder_45 Q )))))) ∧ (x2 = 2 → ((x1 = 2 → (pX4_isOrUnder_66 Q )) ∧ (¬ x1 = 2 → ((x1 = 3 → (pX4_isOrUnder_66 Q )) ∧ (¬ x1 = 3 → ((¬ x1 = 4 → (pX4_isOrUnder_71 Q 0)) ∧ (x1 = 4 → (pX4_isOrUnder_66 Q )))))))) ∧ (x2 = 3 → ((x1 = 3 → (pX4_isOrUnder_82 Q )) ∧ (¬ x1 = 3 → ((¬ x1 = 4 → (pX4_isOrUnder_87 Q 0)) ∧ (x1 = 4 → (pX4_isOrUnder_82 Q )))))) ∧ (¬ x2 = 0 → ¬ x2 = 1 → ¬ x2 = 2 → ¬ x2 = 3 → ((¬ x1 = x2 → (pX4_isOrUnder_98 Q 0)) ∧ (x1 = x2 → (pX4_isOrUnder_98 Q 1))))
set_option maxHeartbeats 4000000 in
set_option maxRecDepth 100000 in
theorem bX4_isOrUnder_50 {p : Program} {l : Launch} {e : Env} {s : State} {m : MethodId} {args : Array Value} {below : List Frame} {meth : Method} {c : Code} {D : va_G} {κ : Nat → ClassId}    {Q : Int32 → Prop} (Cc : Cx D κ RX4 cX4_isOrUnder 2 (some .boolean) p s m args meth c)    : ∀ (y0 : Int32) (ls : Array Slot) (hl : lv_has ls 2 []) (h : pX4_isOrUnder_50 Q y0), W p l e rX4_isOrUnder s m args below meth c s.heap [] 0 0 (MQ below (RQ Q) args s 0 0 (fun _ => False)) (F0 m 50 ls [.int y0]) := by
  obtain ⟨hx, hb, hml, hown, hts, hr, hlk, hE⟩ := id Cc
  intro y0 ls hl h
  unfold pX4_isOrUnder_50 at h
  exact W.zret (v := y0) (ty := .boolean) hx hb hr (bool_nar h.1) (fun t ht _ => RQ.mk h.2 ht) (fun _ h9 => by cases h9) dX4_isOrUnder_50 (hlocks := hlk)
set_option maxHeartbeats 4000000 in
set_option maxRecDepth 100000 in
theorem bX4_isOrUnder_45 {p : Program} {l : Launch} {e : Env} {s : State} {m : MethodId} {args : Array Value} {below : List Frame} {meth : Method} {c : Code} {D : va_G} {κ : Nat → ClassId}    {Q : Int32 → Prop} (Cc : Cx D κ RX4 cX4_isOrUnder 2 (some .boolean) p s m args meth c)    : ∀ (ls : Array Slot) (hl : lv_has ls 2 []) (h : pX4_isOrUnder_45 Q ), W p l e rX4_isOrUnder s m args below meth c s.heap [] 0 0 (MQ below (RQ Q) args s 0 0 (fun _ => False)) (F0 m 45 ls []) := by
  obtain ⟨hx, hb, hml, hown, hts, hr, hlk, hE⟩ := id Cc
  intro ls hl h
  unfold pX4_isOrUnder_45 at h
  refine lv_iconst (v := 1) hx hb dX4_isOrUnder_45 (by decide) ?_
  refine lv_goto (tgt := 50) hx hb dX4_isOrUnder_46 (by decide) ?_
  exact bX4_isOrUnder_50 Cc 1  _ (lv_sub hl [] rfl) h
set_option maxHeartbeats 4000000 in
set_option maxRecDepth 100000 in
theorem bX4_isOrUnder_71 {p : Program} {l : Launch} {e : Env} {s : State} {m : MethodId} {args : Array Value} {below : List Frame} {meth : Method} {c : Code} {D : va_G} {κ : Nat → ClassId}    {Q : Int32 → Prop} (Cc : Cx D κ RX4 cX4_isOrUnder 2 (some .boolean) p s m args meth c)    : ∀ (y0 : Int32) (ls : Array Slot) (hl : lv_has ls 2 []) (h : pX4_isOrUnder_71 Q y0), W p l e rX4_isOrUnder s m args below meth c s.heap [] 0 0 (MQ below (RQ Q) args s 0 0 (fun _ => False)) (F0 m 71 ls [.int y0]) := by
  obtain ⟨hx, hb, hml, hown, hts, hr, hlk, hE⟩ := id Cc
  intro y0 ls hl h
  unfold pX4_isOrUnder_71 at h
  exact W.zret (v := y0) (ty := .boolean) hx hb hr (bool_nar h.1) (fun t ht _ => RQ.mk h.2 ht) (fun _ h9 => by cases h9) dX4_isOrUnder_71 (hlocks := hlk)
set_option maxHeartbeats 4000000 in
set_option maxRecDepth 100000 in
theorem bX4_isOrUnder_66 {p : Program} {l : Launch} {e : Env} {s : State} {m : MethodId} {args : Array Value} {below : List Frame} {meth : Method} {c : Code} {D : va_G} {κ : Nat → ClassId}    {Q : Int32 → Prop} (Cc : Cx D κ RX4 cX4_isOrUnder 2 (some .boolean) p s m args meth c)    : ∀ (ls : Array Slot) (hl : lv_has ls 2 []) (h : pX4_isOrUnder_66 Q ), W p l e rX4_isOrUnder s m args below meth c s.heap [] 0 0 (MQ below (RQ Q) args s 0 0 (fun _ => False)) (F0 m 66 ls []) := by
  obtain ⟨hx, hb, hml, hown, hts, hr, hlk, hE⟩ := id Cc
  intro ls hl h
  unfold pX4_isOrUnder_66 at h
  refine lv_iconst (v := 1) hx hb dX4_isOrUnder_66 (by decide) ?_
  refine lv_goto (tgt := 71) hx hb dX4_isOrUnder_67 (by decide) ?_
  exact bX4_isOrUnder_71 Cc 1  _ (lv_sub hl [] rfl) h
set_option maxHeartbeats 4000000 in
set_option maxRecDepth 100000 in
theorem bX4_isOrUnder_87 {p : Program} {l : Launch} {e : Env} {s : State} {m : MethodId} {args : Array Value} {below : List Frame} {meth : Method} {c : Code} {D : va_G} {κ : Nat → ClassId}    {Q : Int32 → Prop} (Cc : Cx D κ RX4 cX4_isOrUnder 2 (some .boolean) p s m args meth c)    : ∀ (y0 : Int32) (ls : Array Slot) (hl : lv_has ls 2 []) (h : pX4_isOrUnder_87 Q y0), W p l e rX4_isOrUnder s m args below meth c s.heap [] 0 0 (MQ below (RQ Q) args s 0 0 (fun _ => False)) (F0 m 87 ls [.int y0]) := by
  obtain ⟨hx, hb, hml, hown, hts, hr, hlk, hE⟩ := id Cc
  intro y0 ls hl h
  unfold pX4_isOrUnder_87 at h
  exact W.zret (v := y0) (ty := .boolean) hx hb hr (bool_nar h.1) (fun t ht _ => RQ.mk h.2 ht) (fun _ h9 => by cases h9) dX4_isOrUnder_87 (hlocks := hlk)
set_option maxHeartbeats 4000000 in
set_option maxRecDepth 100000 in
theorem bX4_isOrUnder_82 {p : Program} {l : Launch} {e : Env} {s : State} {m : MethodId} {args : Array Value} {below : List Frame} {meth : Method} {c : Code} {D : va_G} {κ : Nat → ClassId}    {Q : Int32 → Prop} (Cc : Cx D κ RX4 cX4_isOrUnder 2 (some .boolean) p s m args meth c)    : ∀ (ls : Array Slot) (hl : lv_has ls 2 []) (h : pX4_isOrUnder_82 Q ), W p l e rX4_isOrUnder s m args below meth c s.heap [] 0 0 (MQ below (RQ Q) args s 0 0 (fun _ => False)) (F0 m 82 ls []) := by
  obtain ⟨hx, hb, hml, hown, hts, hr, hlk, hE⟩ := id Cc
  intro ls hl h
  unfold pX4_isOrUnder_82 at h
  refine lv_iconst (v := 1) hx hb dX4_isOrUnder_82 (by decide) ?_
  refine lv_goto (tgt := 87) hx hb dX4_isOrUnder_83 (by decide) ?_
  exact bX4_isOrUnder_87 Cc 1  _ (lv_sub hl [] rfl) h
set_option maxHeartbeats 4000000 in
set_option maxRecDepth 100000 in
theorem bX4_isOrUnder_98 {p : Program} {l : Launch} {e : Env} {s : State} {m : MethodId} {args : Array Value} {below : List Frame} {meth : Method} {c : Code} {D : va_G} {κ : Nat → ClassId}    {Q : Int32 → Prop} (Cc : Cx D κ RX4 cX4_isOrUnder 2 (some .boolean) p s m args meth c)    : ∀ (y0 : Int32) (ls : Array Slot) (hl : lv_has ls 2 []) (h : pX4_isOrUnder_98 Q y0), W p l e rX4_isOrUnder s m args below meth c s.heap [] 0 0 (MQ below (RQ Q) args s 0 0 (fun _ => False)) (F0 m 98 ls [.int y0]) := by
  obtain ⟨hx, hb, hml, hown, hts, hr, hlk, hE⟩ := id Cc
  intro y0 ls hl h
  unfold pX4_isOrUnder_98 at h
  exact W.zret (v := y0) (ty := .boolean) hx hb hr (bool_nar h.1) (fun t ht _ => RQ.mk h.2 ht) (fun _ h9 => by cases h9) dX4_isOrUnder_98 (hlocks := hlk)
set_option maxHeartbeats 4000000 in
set_option maxRecDepth 100000 in
theorem mX4_isOrUnder (l : Launch) (D : va_G) (κ : Nat → ClassId)   {x1 : Int32} {x2 : Int32} {Q : Int32 → Prop}  (h : pX4_isOrUnder  x1 x2 Q) : Met l yX4_isOrUnder (wz yX4_isOrUnder cX4_isOrUnder 2 (some .boolean)) rX4_isOrUnder (va_Pc [.int x1, .int x2] (PE D κ (fun _ => True))) (RQ Q) 0 0 (fun _ => False) := by
  refine Met_of l (own := RX4) (by decide) rfl (Nat.le_of_ble_eq_true rfl) (fun p e s m below meth c Cc hPP ls hl => ?_)
  obtain ⟨hx, hb, hml, hown, hts, hr, hlk, hE⟩ := id Cc
  have hl : lv_has ls 2 [(0, .int x1), (1, .int x2)] := hl
  unfold pX4_isOrUnder at h
  refine lv_iload_n hx hb dX4_isOrUnder_0 rfl (lv_at hl 1 rfl) ?_
  by_cases c1_0 : x2 = 0
  · have h := h.1 c1_0
    refine lv_tableIn (tgt := 32) hx hb dX4_isOrUnder_1 (by rw [c1_0]; decide) (by rw [c1_0]; decide) (by rw [c1_0]; rfl) (by decide) ?_
    refine lv_iconst (v := 1) hx hb dX4_isOrUnder_32 (by decide) ?_
    exact W.zret (v := 1) (ty := .boolean) hx hb hr rfl (fun t ht _ => RQ.mk h ht) (fun _ h9 => by cases h9) dX4_isOrUnder_33 (hlocks := hlk)
  · have h := h.2
    by_cases c1_1 : x2 = 1
    · have h := h.1 c1_1
      refine lv_tableIn (tgt := 34) hx hb dX4_isOrUnder_1 (by rw [c1_1]; decide) (by rw [c1_1]; decide) (by rw [c1_1]; rfl) (by decide) ?_
      refine lv_iload_n hx hb dX4_isOrUnder_34 rfl (lv_at hl 0 rfl) ?_
      refine lv_iconst (v := 1) hx hb dX4_isOrUnder_35 (by decide) ?_
      refine lv_icmp_eq (tgt := 45) hx hb dX4_isOrUnder_36 (by decide) (fun c36 => ?_) (fun c36 => ?_)
      · have h := h.1 c36
        exact bX4_isOrUnder_45 Cc   _ (lv_sub hl [] rfl) h
      · have h := h.2 c36
        refine lv_iload_n hx hb dX4_isOrUnder_39 rfl (lv_at hl 0 rfl) ?_
        refine lv_bipush (v := 6) hx hb dX4_isOrUnder_40 (by decide) ?_
        refine lv_icmp_ne (tgt := 49) hx hb dX4_isOrUnder_42 (by decide) (fun c42 => ?_) (fun c42 => ?_)
        · have h := h.1 c42
          refine lv_iconst (v := 0) hx hb dX4_isOrUnder_49 (by decide) ?_
          exact bX4_isOrUnder_50 Cc 0  _ (lv_sub hl [] rfl) h
        · have h := h.2 c42
          exact bX4_isOrUnder_45 Cc   _ (lv_sub hl [] rfl) h
    · have h := h.2
      by_cases c1_2 : x2 = 2
      · have h := h.1 c1_2
        refine lv_tableIn (tgt := 51) hx hb dX4_isOrUnder_1 (by rw [c1_2]; decide) (by rw [c1_2]; decide) (by rw [c1_2]; rfl) (by decide) ?_
        refine lv_iload_n hx hb dX4_isOrUnder_51 rfl (lv_at hl 0 rfl) ?_
        refine lv_iconst (v := 2) hx hb dX4_isOrUnder_52 (by decide) ?_
        refine lv_icmp_eq (tgt := 66) hx hb dX4_isOrUnder_53 (by decide) (fun c53 => ?_) (fun c53 => ?_)
        · have h := h.1 c53
          exact bX4_isOrUnder_66 Cc   _ (lv_sub hl [] rfl) h
        · have h := h.2 c53
          refine lv_iload_n hx hb dX4_isOrUnder_56 rfl (lv_at hl 0 rfl) ?_
          refine lv_iconst (v := 3) hx hb dX4_isOrUnder_57 (by decide) ?_
          refine lv_icmp_eq (tgt := 66) hx hb dX4_isOrUnder_58 (by decide) (fun c58 => ?_) (fun c58 => ?_)
          · have h := h.1 c58
            exact bX4_isOrUnder_66 Cc   _ (lv_sub hl [] rfl) h
          · have h := h.2 c58
            refine lv_iload_n hx hb dX4_isOrUnder_61 rfl (lv_at hl 0 rfl) ?_
            refine lv_iconst (v := 4) hx hb dX4_isOrUnder_62 (by decide) ?_
            refine lv_icmp_ne (tgt := 70) hx hb dX4_isOrUnder_63 (by decide) (fun c63 => ?_) (fun c63 => ?_)
            · have h := h.1 c63
              refine lv_iconst (v := 0) hx hb dX4_isOrUnder_70 (by decide) ?_
              exact bX4_isOrUnder_71 Cc 0  _ (lv_sub hl [] rfl) h
            · have h := h.2 c63
              exact bX4_isOrUnder_66 Cc   _ (lv_sub hl [] rfl) h
      · have h := h.2
        by_cases c1_3 : x2 = 3
        · have h := h.1 c1_3
          refine lv_tableIn (tgt := 72) hx hb dX4_isOrUnder_1 (by rw [c1_3]; decide) (by rw [c1_3]; decide) (by rw [c1_3]; rfl) (by decide) ?_
          refine lv_iload_n hx hb dX4_isOrUnder_72 rfl (lv_at hl 0 rfl) ?_
          refine lv_iconst (v := 3) hx hb dX4_isOrUnder_73 (by decide) ?_
          refine lv_icmp_eq (tgt := 82) hx hb dX4_isOrUnder_74 (by decide) (fun c74 => ?_) (fun c74 => ?_)
          · have h := h.1 c74
            exact bX4_isOrUnder_82 Cc   _ (lv_sub hl [] rfl) h
          · have h := h.2 c74
            refine lv_iload_n hx hb dX4_isOrUnder_77 rfl (lv_at hl 0 rfl) ?_
            refine lv_iconst (v := 4) hx hb dX4_isOrUnder_78 (by decide) ?_
            refine lv_icmp_ne (tgt := 86) hx hb dX4_isOrUnder_79 (by decide) (fun c79 => ?_) (fun c79 => ?_)
            · have h := h.1 c79
              refine lv_iconst (v := 0) hx hb dX4_isOrUnder_86 (by decide) ?_
              exact bX4_isOrUnder_87 Cc 0  _ (lv_sub hl [] rfl) h
            · have h := h.2 c79
              exact bX4_isOrUnder_82 Cc   _ (lv_sub hl [] rfl) h
        · have h := h.2
          have h := h c1_0 c1_1 c1_2 c1_3
          refine lv_tableOut (tgt := 88) hx hb dX4_isOrUnder_1 (by have h0 := ne_toInt c1_0 (z := 0) (by decide); have h1 := ne_toInt c1_1 (z := 1) (by decide); have h2 := ne_toInt c1_2 (z := 2) (by decide); have h3 := ne_toInt c1_3 (z := 3) (by decide); omega) (by decide) ?_
          refine lv_iload_n hx hb dX4_isOrUnder_88 rfl (lv_at hl 0 rfl) ?_
          refine lv_iload_n hx hb dX4_isOrUnder_89 rfl (lv_at hl 1 rfl) ?_
          refine lv_icmp_ne (tgt := 97) hx hb dX4_isOrUnder_90 (by decide) (fun c90 => ?_) (fun c90 => ?_)
          · have h := h.1 c90
            refine lv_iconst (v := 0) hx hb dX4_isOrUnder_97 (by decide) ?_
            exact bX4_isOrUnder_98 Cc 0  _ (lv_sub hl [] rfl) h
          · have h := h.2 c90
            refine lv_iconst (v := 1) hx hb dX4_isOrUnder_93 (by decide) ?_
            refine lv_goto (tgt := 98) hx hb dX4_isOrUnder_94 (by decide) ?_
            exact bX4_isOrUnder_98 Cc 1  _ (lv_sub hl [] rfl) h
theorem qX4_isOrUnder_n {R : Room} {s : State} {args : Array Value} (hts : ∀ w ∈ gG, w.before args s = true) (hn : va_Nw (.methodLinkNest RX1 70 yX4_isOrUnder RX4) s) (hR : rX4_isOrUnder.frames + 1 ≤ R.frames ∧ 8 + (2 + 11) + rX4_isOrUnder.locals ≤ R.locals) : va_CN R s args RX1 70 yX4_isOrUnder RX4 cX4_isOrUnder 2 (some .boolean) (wz yX4_isOrUnder cX4_isOrUnder 2 (some .boolean)) rX4_isOrUnder 0 0 2 ∧ (Cond.static yX4_isOrUnder).before args s = true ∧ True := ⟨va_cnB 2 hts (good_wz mw_323) rfl rfl rfl hn (tw_70 hts) (by decide +kernel) hR, tw_322 hts, trivial⟩
theorem qX4_isOrUnder {R : Room} {s : State} {args : Array Value} {own : String} {idx : Nat} (hts : ∀ w ∈ gG, w.before args s = true) (hl : (Cond.methodLink own idx yX4_isOrUnder).before args s = true) (hR : rX4_isOrUnder.frames + 1 ≤ R.frames ∧ 8 + (2 + 11) + rX4_isOrUnder.locals ≤ R.locals) : CallB R s args own idx yX4_isOrUnder cX4_isOrUnder 2 (some .boolean) (wz yX4_isOrUnder cX4_isOrUnder 2 (some .boolean)) rX4_isOrUnder 0 0 2 ∧ (Cond.static yX4_isOrUnder).before args s = true := ⟨kw 2 hts mw_323 rfl rfl (tw_70 hts) hl (by decide +kernel) hR, tw_322 hts⟩
abbrev rX1_gapOf : Room := { frames := 1, cells := 0, slots := 0, locals := 21 }
def pX1_gapOf_137 (σ : Mx) (Q : Int32 → Prop) (y0 : Int32) : Prop := Q y0
def pX1_gapOf_52 (σ : Mx) (Q : Int32 → Prop) (x1 : Int32) (x3 : Int32) (x4 : Int32) (y0 : Int32) : Prop := ∀ v58 : Int32, v58 = (y0 / 2) → (vp_in x1 8 ∧ (∀ v66 : Int32, v66 = (σ 0 x1.toNatClampNeg) → ((v66 = 1 → (Q x4)) ∧ (v66 = 2 → (Q y0)) ∧ (v66 = 3 → (Q v58)) ∧ (v66 = 4 → (Q (v58 + ((σ 9 0) - (σ 9 0) / 3 * 3)))) ∧ (v66 = 5 → ((x3 ≤ 0 → (pX1_gapOf_137 σ Q 0)) ∧ (¬ x3 ≤ 0 → (pX1_gapOf_137 σ Q 1)))) ∧ (v66 = 6 → (Q (x4 + 2))) ∧ (¬ v66 = 1 → ¬ v66 = 2 → ¬ v66 = 3 → ¬ v66 = 4 → ¬ v66 = 5 → ¬ v66 = 6 → (Q x3)))))
def pX1_gapOf_30 (σ : Mx) (Q : Int32 → Prop) (x1 : Int32) (x2 : Int32) (x3 : Int32) (y0 : Int32) : Prop := vp_in x2 8 ∧ (pX4_isOrUnder (σ 0 x2.toNatClampNeg) 2 (fun r39 => ((r39 = 0 → (pX1_gapOf_52 σ Q x1 x3 y0 (x3 + 1))) ∧ (¬ r39 = 0 → (pX1_gapOf_52 σ Q x1 x3 y0 0)))))
def pX1_gapOf (σ : Mx) (x1 : Int32) (x2 : Int32) (Q : Int32 → Prop) : Prop := pX1_shownRight σ x1 (fun r2 => (pX1_shownLeft σ x2 (fun r7 => (∀ v11 : Int32, v11 = (if 0 ≤ (r2 - r7) then (r2 - r7) else 0 - (r2 - r7)) → (vp_in x1 8 ∧ ((¬ x2 = (σ 3 x1.toNatClampNeg) → (pX1_gapOf_30 σ Q x1 x2 v11 v11)) ∧ (x2 = (σ 3 x1.toNatClampNeg) → (pX1_gapOf_30 σ Q x1 x2 v11 0))))))))
set_option maxHeartbeats 4000000 in
set_option maxRecDepth 100000 in
theorem bX1_gapOf_137 {p : Program} {l : Launch} {e : Env} {s : State} {m : MethodId} {args : Array Value} {below : List Frame} {meth : Method} {c : Code} {D : va_G} {κ : Nat → ClassId} {a : Nat → Nat} {σ : Mx}  {Q : Int32 → Prop} (Cc : Cx D κ RX1 cX1_gapOf 7 (some .int) p s m args meth c)  (hPt : va_P D classes (wCo κ a σ) s.heap)  : ∀ (y0 : Int32) (ls : Array Slot) (hl : lv_has ls 7 []) (h : pX1_gapOf_137 σ Q y0), W p l e rX1_gapOf s m args below meth c s.heap [] 0 0 (MQ below (RQ Q) args s 0 0 (fun _ => False)) (F0 m 137 ls [.int y0]) := by
  obtain ⟨hx, hb, hml, hown, hts, hr, hlk, hE⟩ := id Cc
  intro y0 ls hl h
  unfold pX1_gapOf_137 at h
  exact W.iret (v := y0) hx hb hr (fun t ht _ => RQ.mk h ht) (fun _ h9 => by cases h9) dX1_gapOf_137 (hlocks := hlk)
set_option maxHeartbeats 4000000 in
set_option maxRecDepth 100000 in
theorem bX1_gapOf_52 {p : Program} {l : Launch} {e : Env} {s : State} {m : MethodId} {args : Array Value} {below : List Frame} {meth : Method} {c : Code} {D : va_G} {κ : Nat → ClassId} {a : Nat → Nat} {σ : Mx}  {Q : Int32 → Prop} (Cc : Cx D κ RX1 cX1_gapOf 7 (some .int) p s m args meth c)  (hPt : va_P D classes (wCo κ a σ) s.heap)  : ∀ (x1 : Int32) (x3 : Int32) (x4 : Int32) (y0 : Int32) (ls : Array Slot) (hl : lv_has ls 7 [(0, .ref (a 0)), (1, .int x1), (3, .int x3), (4, .int x4)]) (h : pX1_gapOf_52 σ Q x1 x3 x4 y0), W p l e rX1_gapOf s m args below meth c s.heap [] 0 0 (MQ below (RQ Q) args s 0 0 (fun _ => False)) (F0 m 52 ls [.int y0]) := by
  obtain ⟨hx, hb, hml, hown, hts, hr, hlk, hE⟩ := id Cc
  intro x1 x3 x4 y0 ls hl h
  unfold pX1_gapOf_52 at h
  refine lv_istore (lv' := [(5, .int y0), (0, .ref (a 0)), (1, .int x1), (3, .int x3), (4, .int x4)]) hx hb dX1_gapOf_52 hl (by decide) rfl (fun ls hl => ?_)
  refine lv_iload hx hb dX1_gapOf_54 (lv_at hl 0 rfl) ?_
  refine lv_iconst (v := 2) hx hb dX1_gapOf_56 (by decide) ?_
  refine lv_idiv hx hb dX1_gapOf_57 (by decide) ?_
  refine lv_topi (fun v58 e58 => ?_)
  have h := h v58 e58
  refine lv_istore (lv' := [(6, .int v58), (5, .int y0), (0, .ref (a 0)), (1, .int x1), (3, .int x3), (4, .int x4)]) hx hb dX1_gapOf_58 hl (by decide) rfl (fun ls hl => ?_)
  refine lv_aload_n hx hb dX1_gapOf_60 rfl (lv_at hl 2 rfl) ?_
  refine gCo_0 Cc hPt (tw_97 hts) dX1_gapOf_61 ?_
  refine lv_iload_n hx hb dX1_gapOf_64 rfl (lv_at hl 3 rfl) ?_
  refine lCo_0 Cc hPt h.1 dX1_gapOf_65 ?_
  have h := h.2
  refine lv_topi (fun v66 e66 => ?_)
  have h := h v66 e66
  by_cases c66_1 : v66 = 1
  · have h := h.1 c66_1
    refine lv_tableIn (tgt := 104) hx hb dX1_gapOf_66 (by rw [c66_1]; decide) (by rw [c66_1]; decide) (by rw [c66_1]; rfl) (by decide) ?_
    refine lv_iload hx hb dX1_gapOf_104 (lv_at hl 5 rfl) ?_
    exact W.iret (v := x4) hx hb hr (fun t ht _ => RQ.mk h ht) (fun _ h9 => by cases h9) dX1_gapOf_106 (hlocks := hlk)
  · have h := h.2
    by_cases c66_2 : v66 = 2
    · have h := h.1 c66_2
      refine lv_tableIn (tgt := 112) hx hb dX1_gapOf_66 (by rw [c66_2]; decide) (by rw [c66_2]; decide) (by rw [c66_2]; rfl) (by decide) ?_
      refine lv_iload hx hb dX1_gapOf_112 (lv_at hl 1 rfl) ?_
      exact W.iret (v := y0) hx hb hr (fun t ht _ => RQ.mk h ht) (fun _ h9 => by cases h9) dX1_gapOf_114 (hlocks := hlk)
    · have h := h.2
      by_cases c66_3 : v66 = 3
      · have h := h.1 c66_3
        refine lv_tableIn (tgt := 115) hx hb dX1_gapOf_66 (by rw [c66_3]; decide) (by rw [c66_3]; decide) (by rw [c66_3]; rfl) (by decide) ?_
        refine lv_iload hx hb dX1_gapOf_115 (lv_at hl 0 rfl) ?_
        exact W.iret (v := v58) hx hb hr (fun t ht _ => RQ.mk h ht) (fun _ h9 => by cases h9) dX1_gapOf_117 (hlocks := hlk)
      · have h := h.2
        by_cases c66_4 : v66 = 4
        · have h := h.1 c66_4
          refine lv_tableIn (tgt := 118) hx hb dX1_gapOf_66 (by rw [c66_4]; decide) (by rw [c66_4]; decide) (by rw [c66_4]; rfl) (by decide) ?_
          refine lv_iload hx hb dX1_gapOf_118 (lv_at hl 0 rfl) ?_
          refine lv_aload_n hx hb dX1_gapOf_120 rfl (lv_at hl 2 rfl) ?_
          refine gCo_9 Cc hPt (tw_119 hts) dX1_gapOf_121 ?_
          refine lv_iconst (v := 3) hx hb dX1_gapOf_124 (by decide) ?_
          refine lv_irem hx hb dX1_gapOf_125 (by decide) ?_
          refine lv_iadd hx hb dX1_gapOf_126 ?_
          exact W.iret (v := (v58 + ((σ 9 0) - (σ 9 0) / 3 * 3))) hx hb hr (fun t ht _ => RQ.mk h ht) (fun _ h9 => by cases h9) dX1_gapOf_127 (hlocks := hlk)
        · have h := h.2
          by_cases c66_5 : v66 = 5
          · have h := h.1 c66_5
            refine lv_tableIn (tgt := 128) hx hb dX1_gapOf_66 (by rw [c66_5]; decide) (by rw [c66_5]; decide) (by rw [c66_5]; rfl) (by decide) ?_
            refine lv_iload_n hx hb dX1_gapOf_128 rfl (lv_at hl 4 rfl) ?_
            refine lv_if_le (tgt := 136) hx hb dX1_gapOf_129 (by decide) (fun c129 => ?_) (fun c129 => ?_)
            · have h := h.1 c129
              refine lv_iconst (v := 0) hx hb dX1_gapOf_136 (by decide) ?_
              exact bX1_gapOf_137 Cc hPt 0  _ (lv_sub hl [] rfl) h
            · have h := h.2 c129
              refine lv_iconst (v := 1) hx hb dX1_gapOf_132 (by decide) ?_
              refine lv_goto (tgt := 137) hx hb dX1_gapOf_133 (by decide) ?_
              exact bX1_gapOf_137 Cc hPt 1  _ (lv_sub hl [] rfl) h
          · have h := h.2
            by_cases c66_6 : v66 = 6
            · have h := h.1 c66_6
              refine lv_tableIn (tgt := 107) hx hb dX1_gapOf_66 (by rw [c66_6]; decide) (by rw [c66_6]; decide) (by rw [c66_6]; rfl) (by decide) ?_
              refine lv_iload hx hb dX1_gapOf_107 (lv_at hl 5 rfl) ?_
              refine lv_iconst (v := 2) hx hb dX1_gapOf_109 (by decide) ?_
              refine lv_iadd hx hb dX1_gapOf_110 ?_
              exact W.iret (v := (x4 + 2)) hx hb hr (fun t ht _ => RQ.mk h ht) (fun _ h9 => by cases h9) dX1_gapOf_111 (hlocks := hlk)
            · have h := h.2
              have h := h c66_1 c66_2 c66_3 c66_4 c66_5 c66_6
              refine lv_tableOut (tgt := 138) hx hb dX1_gapOf_66 (by have h1 := ne_toInt c66_1 (z := 1) (by decide); have h2 := ne_toInt c66_2 (z := 2) (by decide); have h3 := ne_toInt c66_3 (z := 3) (by decide); have h4 := ne_toInt c66_4 (z := 4) (by decide); have h5 := ne_toInt c66_5 (z := 5) (by decide); have h6 := ne_toInt c66_6 (z := 6) (by decide); omega) (by decide) ?_
              refine lv_iload_n hx hb dX1_gapOf_138 rfl (lv_at hl 4 rfl) ?_
              exact W.iret (v := x3) hx hb hr (fun t ht _ => RQ.mk h ht) (fun _ h9 => by cases h9) dX1_gapOf_139 (hlocks := hlk)
set_option maxHeartbeats 4000000 in
set_option maxRecDepth 100000 in
theorem bX1_gapOf_30 {p : Program} {l : Launch} {e : Env} {s : State} {m : MethodId} {args : Array Value} {below : List Frame} {meth : Method} {c : Code} {D : va_G} {κ : Nat → ClassId} {a : Nat → Nat} {σ : Mx}  {Q : Int32 → Prop} (Cc : Cx D κ RX1 cX1_gapOf 7 (some .int) p s m args meth c)  (hPt : va_P D classes (wCo κ a σ) s.heap)  : ∀ (x1 : Int32) (x2 : Int32) (x3 : Int32) (y0 : Int32) (ls : Array Slot) (hl : lv_has ls 7 [(0, .ref (a 0)), (1, .int x1), (2, .int x2), (3, .int x3)]) (h : pX1_gapOf_30 σ Q x1 x2 x3 y0), W p l e rX1_gapOf s m args below meth c s.heap [] 0 0 (MQ below (RQ Q) args s 0 0 (fun _ => False)) (F0 m 30 ls [.int y0]) := by
  obtain ⟨hx, hb, hml, hown, hts, hr, hlk, hE⟩ := id Cc
  intro x1 x2 x3 y0 ls hl h
  unfold pX1_gapOf_30 at h
  refine lv_istore (lv' := [(4, .int y0), (0, .ref (a 0)), (1, .int x1), (2, .int x2), (3, .int x3)]) hx hb dX1_gapOf_30 hl (by decide) rfl (fun ls hl => ?_)
  refine lv_aload_n hx hb dX1_gapOf_32 rfl (lv_at hl 1 rfl) ?_
  refine gCo_0 Cc hPt (tw_97 hts) dX1_gapOf_33 ?_
  refine lv_iload_n hx hb dX1_gapOf_36 rfl (lv_at hl 3 rfl) ?_
  refine lCo_0 Cc hPt h.1 dX1_gapOf_37 ?_
  have h := h.2
  refine lv_iconst (v := 2) hx hb dX1_gapOf_38 (by decide) ?_
  refine kR (kN Cc (mX4_isOrUnder l D κ h) (qX4_isOrUnder_n hts hE.2 ⟨(Nat.le_of_ble_eq_true rfl), (Nat.le_of_ble_eq_true rfl)⟩) (rest := []) trivial rfl hl.1 rfl (Nat.le_of_ble_eq_true rfl) dX1_gapOf_39 ⟨Nat.zero_le _, Nat.zero_le _⟩) (fun r39 h => ?_)
  refine lv_if_eq (tgt := 49) hx hb dX1_gapOf_42 (by decide) (fun c42 => ?_) (fun c42 => ?_)
  · have h := h.1 c42
    refine lv_iload_n hx hb dX1_gapOf_49 rfl (lv_at hl 4 rfl) ?_
    refine lv_iconst (v := 1) hx hb dX1_gapOf_50 (by decide) ?_
    refine lv_iadd hx hb dX1_gapOf_51 ?_
    exact bX1_gapOf_52 Cc hPt x1 x3 y0 (x3 + 1)  _ (lv_sub hl [1, 2, 4, 0] rfl) h
  · have h := h.2 c42
    refine lv_iconst (v := 0) hx hb dX1_gapOf_45 (by decide) ?_
    refine lv_goto (tgt := 52) hx hb dX1_gapOf_46 (by decide) ?_
    exact bX1_gapOf_52 Cc hPt x1 x3 y0 0  _ (lv_sub hl [1, 2, 4, 0] rfl) h
set_option maxHeartbeats 4000000 in
set_option maxRecDepth 100000 in
theorem mX1_gapOf (l : Launch) (D : va_G) (κ : Nat → ClassId) (a : Nat → Nat) {σ : Mx} {x1 : Int32} {x2 : Int32} {Q : Int32 → Prop}  (h : pX1_gapOf σ x1 x2 Q) : Met l yX1_gapOf (wz yX1_gapOf cX1_gapOf 7 (some .int)) rX1_gapOf (va_Pc [.ref (a 0), .int x1, .int x2] (PE D κ (fun H => va_P D classes (wCo κ a σ) H))) (RQ Q) 0 0 (fun _ => False) := by
  refine Met_of l (own := RX1) (by decide) rfl (Nat.le_of_ble_eq_true rfl) (fun p e s m below meth c Cc hPP ls hl => ?_)
  obtain ⟨hx, hb, hml, hown, hts, hr, hlk, hE⟩ := id Cc
  have hl : lv_has ls 7 [(0, .ref (a 0)), (1, .int x1), (2, .int x2)] := hl
  have hPt := hPP
  unfold pX1_gapOf at h
  refine lv_aload_n hx hb dX1_gapOf_0 rfl (lv_at hl 0 rfl) ?_
  refine lv_iload_n hx hb dX1_gapOf_1 rfl (lv_at hl 1 rfl) ?_
  refine kR (kV Cc (mX1_shownRight l D κ a h) (qX1_shownRight hts (tw_310 hts) ⟨(Nat.le_of_ble_eq_true rfl), (Nat.le_of_ble_eq_true rfl)⟩) (va_recv hE.1 hPt (ci := 1) (q0 := 0) rfl rfl) (rest := []) hPt rfl hl.1 rfl (Nat.le_of_ble_eq_true rfl) dX1_gapOf_2 ⟨Nat.zero_le _, Nat.zero_le _⟩) (fun r2 h => ?_)
  refine lv_aload_n hx hb dX1_gapOf_5 rfl (lv_at hl 0 rfl) ?_
  refine lv_iload_n hx hb dX1_gapOf_6 rfl (lv_at hl 2 rfl) ?_
  refine kR (kV Cc (mX1_shownLeft l D κ a h) (qX1_shownLeft hts (tw_314 hts) ⟨(Nat.le_of_ble_eq_true rfl), (Nat.le_of_ble_eq_true rfl)⟩) (va_recv hE.1 hPt (ci := 1) (q0 := 0) rfl rfl) (rest := [.int r2]) hPt rfl hl.1 rfl (Nat.le_of_ble_eq_true rfl) dX1_gapOf_7 ⟨Nat.zero_le _, Nat.zero_le _⟩) (fun r7 h => ?_)
  refine lv_isub hx hb dX1_gapOf_10 ?_
  refine va_mabs hx hb (hml.trans hl.1.symm) hown (tw_318 hts) (tw_319 hts) (tw_76 hts) (tw_320 hts) (Nat.le_of_ble_eq_true rfl) (Nat.le_of_ble_eq_true rfl) (Nat.zero_le _) (Nat.zero_le _) dX1_gapOf_11 ?_
  refine lv_topi (fun v11 e11 => ?_)
  have h := h v11 e11
  refine lv_istore_n (lv' := [(3, .int v11), (0, .ref (a 0)), (1, .int x1), (2, .int x2)]) hx hb dX1_gapOf_14 rfl hl (by decide) rfl (fun ls hl => ?_)
  refine lv_iload_n hx hb dX1_gapOf_15 rfl (lv_at hl 3 rfl) ?_
  refine lv_aload_n hx hb dX1_gapOf_16 rfl (lv_at hl 1 rfl) ?_
  refine gCo_3 Cc hPt (tw_103 hts) dX1_gapOf_17 ?_
  refine lv_iload_n hx hb dX1_gapOf_20 rfl (lv_at hl 2 rfl) ?_
  refine lCo_3 Cc hPt h.1 dX1_gapOf_21 ?_
  have h := h.2
  refine lv_icmp_ne (tgt := 29) hx hb dX1_gapOf_22 (by decide) (fun c22 => ?_) (fun c22 => ?_)
  · have h := h.1 c22
    refine lv_iload_n hx hb dX1_gapOf_29 rfl (lv_at hl 0 rfl) ?_
    exact bX1_gapOf_30 Cc hPt x1 x2 v11 v11  _ (lv_sub hl [1, 2, 3, 0] rfl) h
  · have h := h.2 c22
    refine lv_iconst (v := 0) hx hb dX1_gapOf_25 (by decide) ?_
    refine lv_goto (tgt := 30) hx hb dX1_gapOf_26 (by decide) ?_
    exact bX1_gapOf_30 Cc hPt x1 x2 v11 0  _ (lv_sub hl [1, 2, 3, 0] rfl) h
theorem qX1_gapOf {R : Room} {s : State} {args : Array Value} {own : String} {idx : Nat} (hts : ∀ w ∈ gG, w.before args s = true) (hl : (Cond.methodLink own idx yX1_gapOf).before args s = true) (hR : rX1_gapOf.frames + 1 ≤ R.frames ∧ 8 + (7 + 11) + rX1_gapOf.locals ≤ R.locals) : CallW R s args own RX1 idx yX1_gapOf cX1_gapOf 7 (some .int) (wz yX1_gapOf cX1_gapOf 7 (some .int)) rX1_gapOf 0 0 2 := ⟨kw 2 hts mw_309 rfl rfl (tw_71 hts) hl (by decide +kernel) hR, tw_307 hts, tw_308 hts⟩
abbrev rX1_edgeOf : Room := { frames := 1, cells := 0, slots := 0, locals := 21 }
def pX1_edgeOf_62 (σ : Mx) (Q : Int32 → Prop) (x3 : Int32) : Prop := Q (x3 / 2)
def pX1_edgeOf_17 (σ : Mx) (Q : Int32 → Prop) (x1 : Int32) (y0 : Int32) : Prop := vp_in x1 8 ∧ (∀ v24 : Int32, v24 = (σ 0 x1.toNatClampNeg) → ((v24 = 2 → (pX1_edgeOf_62 σ Q y0)) ∧ (v24 = 3 → (pX1_edgeOf_62 σ Q y0)) ∧ (v24 = 4 → (Q ((y0 / 2) + 1))) ∧ (v24 = 5 → (Q (9 - y0))) ∧ (v24 = 6 → (Q 0)) ∧ (¬ v24 = 2 → ¬ v24 = 3 → ¬ v24 = 4 → ¬ v24 = 5 → ¬ v24 = 6 → (Q y0))))
def pX1_edgeOf (σ : Mx) (x1 : Int32) (x2 : Int32) (Q : Int32 → Prop) : Prop := (¬ x2 = 0 → (pX1_shownRight σ x1 (fun r14 => (pX1_edgeOf_17 σ Q x1 r14)))) ∧ (x2 = 0 → (pX1_shownLeft σ x1 (fun r6 => (pX1_edgeOf_17 σ Q x1 r6))))
set_option maxHeartbeats 4000000 in
set_option maxRecDepth 100000 in
theorem bX1_edgeOf_62 {p : Program} {l : Launch} {e : Env} {s : State} {m : MethodId} {args : Array Value} {below : List Frame} {meth : Method} {c : Code} {D : va_G} {κ : Nat → ClassId} {a : Nat → Nat} {σ : Mx}  {Q : Int32 → Prop} (Cc : Cx D κ RX1 cX1_edgeOf 4 (some .int) p s m args meth c)  (hPt : va_P D classes (wCo κ a σ) s.heap)  : ∀ (x3 : Int32) (ls : Array Slot) (hl : lv_has ls 4 [(3, .int x3)]) (h : pX1_edgeOf_62 σ Q x3), W p l e rX1_edgeOf s m args below meth c s.heap [] 0 0 (MQ below (RQ Q) args s 0 0 (fun _ => False)) (F0 m 62 ls []) := by
  obtain ⟨hx, hb, hml, hown, hts, hr, hlk, hE⟩ := id Cc
  intro x3 ls hl h
  unfold pX1_edgeOf_62 at h
  refine lv_iload_n hx hb dX1_edgeOf_62 rfl (lv_at hl 0 rfl) ?_
  refine lv_iconst (v := 2) hx hb dX1_edgeOf_63 (by decide) ?_
  refine lv_idiv hx hb dX1_edgeOf_64 (by decide) ?_
  exact W.iret (v := (x3 / 2)) hx hb hr (fun t ht _ => RQ.mk h ht) (fun _ h9 => by cases h9) dX1_edgeOf_65 (hlocks := hlk)
set_option maxHeartbeats 4000000 in
set_option maxRecDepth 100000 in
theorem bX1_edgeOf_17 {p : Program} {l : Launch} {e : Env} {s : State} {m : MethodId} {args : Array Value} {below : List Frame} {meth : Method} {c : Code} {D : va_G} {κ : Nat → ClassId} {a : Nat → Nat} {σ : Mx}  {Q : Int32 → Prop} (Cc : Cx D κ RX1 cX1_edgeOf 4 (some .int) p s m args meth c)  (hPt : va_P D classes (wCo κ a σ) s.heap)  : ∀ (x1 : Int32) (y0 : Int32) (ls : Array Slot) (hl : lv_has ls 4 [(0, .ref (a 0)), (1, .int x1)]) (h : pX1_edgeOf_17 σ Q x1 y0), W p l e rX1_edgeOf s m args below meth c s.heap [] 0 0 (MQ below (RQ Q) args s 0 0 (fun _ => False)) (F0 m 17 ls [.int y0]) := by
  obtain ⟨hx, hb, hml, hown, hts, hr, hlk, hE⟩ := id Cc
  intro x1 y0 ls hl h
  unfold pX1_edgeOf_17 at h
  refine lv_istore_n (lv' := [(3, .int y0), (0, .ref (a 0)), (1, .int x1)]) hx hb dX1_edgeOf_17 rfl hl (by decide) rfl (fun ls hl => ?_)
  refine lv_aload_n hx hb dX1_edgeOf_18 rfl (lv_at hl 1 rfl) ?_
  refine gCo_0 Cc hPt (tw_97 hts) dX1_edgeOf_19 ?_
  refine lv_iload_n hx hb dX1_edgeOf_22 rfl (lv_at hl 2 rfl) ?_
  refine lCo_0 Cc hPt h.1 dX1_edgeOf_23 ?_
  have h := h.2
  refine lv_topi (fun v24 e24 => ?_)
  have h := h v24 e24
  by_cases c24_2 : v24 = 2
  · have h := h.1 c24_2
    refine lv_tableIn (tgt := 62) hx hb dX1_edgeOf_24 (by rw [c24_2]; decide) (by rw [c24_2]; decide) (by rw [c24_2]; rfl) (by decide) ?_
    exact bX1_edgeOf_62 Cc hPt y0  _ (lv_sub hl [0] rfl) h
  · have h := h.2
    by_cases c24_3 : v24 = 3
    · have h := h.1 c24_3
      refine lv_tableIn (tgt := 62) hx hb dX1_edgeOf_24 (by rw [c24_3]; decide) (by rw [c24_3]; decide) (by rw [c24_3]; rfl) (by decide) ?_
      exact bX1_edgeOf_62 Cc hPt y0  _ (lv_sub hl [0] rfl) h
    · have h := h.2
      by_cases c24_4 : v24 = 4
      · have h := h.1 c24_4
        refine lv_tableIn (tgt := 66) hx hb dX1_edgeOf_24 (by rw [c24_4]; decide) (by rw [c24_4]; decide) (by rw [c24_4]; rfl) (by decide) ?_
        refine lv_iload_n hx hb dX1_edgeOf_66 rfl (lv_at hl 0 rfl) ?_
        refine lv_iconst (v := 2) hx hb dX1_edgeOf_67 (by decide) ?_
        refine lv_idiv hx hb dX1_edgeOf_68 (by decide) ?_
        refine lv_iconst (v := 1) hx hb dX1_edgeOf_69 (by decide) ?_
        refine lv_iadd hx hb dX1_edgeOf_70 ?_
        exact W.iret (v := ((y0 / 2) + 1)) hx hb hr (fun t ht _ => RQ.mk h ht) (fun _ h9 => by cases h9) dX1_edgeOf_71 (hlocks := hlk)
      · have h := h.2
        by_cases c24_5 : v24 = 5
        · have h := h.1 c24_5
          refine lv_tableIn (tgt := 72) hx hb dX1_edgeOf_24 (by rw [c24_5]; decide) (by rw [c24_5]; decide) (by rw [c24_5]; rfl) (by decide) ?_
          refine lv_bipush (v := 9) hx hb dX1_edgeOf_72 (by decide) ?_
          refine lv_iload_n hx hb dX1_edgeOf_74 rfl (lv_at hl 0 rfl) ?_
          refine lv_isub hx hb dX1_edgeOf_75 ?_
          exact W.iret (v := (9 - y0)) hx hb hr (fun t ht _ => RQ.mk h ht) (fun _ h9 => by cases h9) dX1_edgeOf_76 (hlocks := hlk)
        · have h := h.2
          by_cases c24_6 : v24 = 6
          · have h := h.1 c24_6
            refine lv_tableIn (tgt := 60) hx hb dX1_edgeOf_24 (by rw [c24_6]; decide) (by rw [c24_6]; decide) (by rw [c24_6]; rfl) (by decide) ?_
            refine lv_iconst (v := 0) hx hb dX1_edgeOf_60 (by decide) ?_
            exact W.iret (v := 0) hx hb hr (fun t ht _ => RQ.mk h ht) (fun _ h9 => by cases h9) dX1_edgeOf_61 (hlocks := hlk)
          · have h := h.2
            have h := h c24_2 c24_3 c24_4 c24_5 c24_6
            refine lv_tableOut (tgt := 77) hx hb dX1_edgeOf_24 (by have h2 := ne_toInt c24_2 (z := 2) (by decide); have h3 := ne_toInt c24_3 (z := 3) (by decide); have h4 := ne_toInt c24_4 (z := 4) (by decide); have h5 := ne_toInt c24_5 (z := 5) (by decide); have h6 := ne_toInt c24_6 (z := 6) (by decide); omega) (by decide) ?_
            refine lv_iload_n hx hb dX1_edgeOf_77 rfl (lv_at hl 0 rfl) ?_
            exact W.iret (v := y0) hx hb hr (fun t ht _ => RQ.mk h ht) (fun _ h9 => by cases h9) dX1_edgeOf_78 (hlocks := hlk)
set_option maxHeartbeats 4000000 in
set_option maxRecDepth 100000 in
theorem mX1_edgeOf (l : Launch) (D : va_G) (κ : Nat → ClassId) (a : Nat → Nat) {σ : Mx} {x1 : Int32} {x2 : Int32} {Q : Int32 → Prop}  (h : pX1_edgeOf σ x1 x2 Q) : Met l yX1_edgeOf (wz yX1_edgeOf cX1_edgeOf 4 (some .int)) rX1_edgeOf (va_Pc [.ref (a 0), .int x1, .int x2] (PE D κ (fun H => va_P D classes (wCo κ a σ) H))) (RQ Q) 0 0 (fun _ => False) := by
  refine Met_of l (own := RX1) (by decide) rfl (Nat.le_of_ble_eq_true rfl) (fun p e s m below meth c Cc hPP ls hl => ?_)
  obtain ⟨hx, hb, hml, hown, hts, hr, hlk, hE⟩ := id Cc
  have hl : lv_has ls 4 [(0, .ref (a 0)), (1, .int x1), (2, .int x2)] := hl
  have hPt := hPP
  unfold pX1_edgeOf at h
  refine lv_iload_n hx hb dX1_edgeOf_0 rfl (lv_at hl 2 rfl) ?_
  refine lv_if_ne (tgt := 12) hx hb dX1_edgeOf_1 (by decide) (fun c1 => ?_) (fun c1 => ?_)
  · have h := h.1 c1
    refine lv_aload_n hx hb dX1_edgeOf_12 rfl (lv_at hl 0 rfl) ?_
    refine lv_iload_n hx hb dX1_edgeOf_13 rfl (lv_at hl 1 rfl) ?_
    refine kR (kV Cc (mX1_shownRight l D κ a h) (qX1_shownRight hts (tw_310 hts) ⟨(Nat.le_of_ble_eq_true rfl), (Nat.le_of_ble_eq_true rfl)⟩) (va_recv hE.1 hPt (ci := 1) (q0 := 0) rfl rfl) (rest := []) hPt rfl hl.1 rfl (Nat.le_of_ble_eq_true rfl) dX1_edgeOf_14 ⟨Nat.zero_le _, Nat.zero_le _⟩) (fun r14 h => ?_)
    exact bX1_edgeOf_17 Cc hPt x1 r14  _ (lv_sub hl [0, 1] rfl) h
  · have h := h.2 c1
    refine lv_aload_n hx hb dX1_edgeOf_4 rfl (lv_at hl 0 rfl) ?_
    refine lv_iload_n hx hb dX1_edgeOf_5 rfl (lv_at hl 1 rfl) ?_
    refine kR (kV Cc (mX1_shownLeft l D κ a h) (qX1_shownLeft hts (tw_314 hts) ⟨(Nat.le_of_ble_eq_true rfl), (Nat.le_of_ble_eq_true rfl)⟩) (va_recv hE.1 hPt (ci := 1) (q0 := 0) rfl rfl) (rest := []) hPt rfl hl.1 rfl (Nat.le_of_ble_eq_true rfl) dX1_edgeOf_6 ⟨Nat.zero_le _, Nat.zero_le _⟩) (fun r6 h => ?_)
    refine lv_goto (tgt := 17) hx hb dX1_edgeOf_9 (by decide) ?_
    exact bX1_edgeOf_17 Cc hPt x1 r6  _ (lv_sub hl [0, 1] rfl) h
theorem qX1_edgeOf {R : Room} {s : State} {args : Array Value} {own : String} {idx : Nat} (hts : ∀ w ∈ gG, w.before args s = true) (hl : (Cond.methodLink own idx yX1_edgeOf).before args s = true) (hR : rX1_edgeOf.frames + 1 ≤ R.frames ∧ 8 + (4 + 11) + rX1_edgeOf.locals ≤ R.locals) : CallW R s args own RX1 idx yX1_edgeOf cX1_edgeOf 4 (some .int) (wz yX1_edgeOf cX1_edgeOf 4 (some .int)) rX1_edgeOf 0 0 2 := ⟨kw 2 hts mw_331 rfl rfl (tw_71 hts) hl (by decide +kernel) hR, tw_329 hts, tw_330 hts⟩
abbrev rX1_gapBehind : Room := { frames := 2, cells := 0, slots := 0, locals := 47 }
def pX1_gapBehind (σ : Mx) (x1 : Int32) (Q : Int32 → Prop) : Prop := vp_in x1 8 ∧ (vp_in (x1 + 1) 8 ∧ (pX1_gapOf σ (σ 4 x1.toNatClampNeg) (σ 4 (x1 + 1).toNatClampNeg) (fun r15 => (Q r15))))
set_option maxHeartbeats 4000000 in
set_option maxRecDepth 100000 in
theorem mX1_gapBehind (l : Launch) (D : va_G) (κ : Nat → ClassId) (a : Nat → Nat) {σ : Mx} {x1 : Int32} {Q : Int32 → Prop}  (h : pX1_gapBehind σ x1 Q) : Met l yX1_gapBehind (wz yX1_gapBehind cX1_gapBehind 2 (some .int)) rX1_gapBehind (va_Pc [.ref (a 0), .int x1] (PE D κ (fun H => va_P D classes (wCo κ a σ) H))) (RQ Q) 0 0 (fun _ => False) := by
  refine Met_of l (own := RX1) (by decide) rfl (Nat.le_of_ble_eq_true rfl) (fun p e s m below meth c Cc hPP ls hl => ?_)
  obtain ⟨hx, hb, hml, hown, hts, hr, hlk, hE⟩ := id Cc
  have hl : lv_has ls 2 [(0, .ref (a 0)), (1, .int x1)] := hl
  have hPt := hPP
  unfold pX1_gapBehind at h
  refine lv_aload_n hx hb dX1_gapBehind_0 rfl (lv_at hl 0 rfl) ?_
  refine lv_aload_n hx hb dX1_gapBehind_1 rfl (lv_at hl 0 rfl) ?_
  refine gCo_4 Cc hPt (tw_105 hts) dX1_gapBehind_2 ?_
  refine lv_iload_n hx hb dX1_gapBehind_5 rfl (lv_at hl 1 rfl) ?_
  refine lCo_4 Cc hPt h.1 dX1_gapBehind_6 ?_
  have h := h.2
  refine lv_aload_n hx hb dX1_gapBehind_7 rfl (lv_at hl 0 rfl) ?_
  refine gCo_4 Cc hPt (tw_105 hts) dX1_gapBehind_8 ?_
  refine lv_iload_n hx hb dX1_gapBehind_11 rfl (lv_at hl 1 rfl) ?_
  refine lv_iconst (v := 1) hx hb dX1_gapBehind_12 (by decide) ?_
  refine lv_iadd hx hb dX1_gapBehind_13 ?_
  refine lCo_4 Cc hPt h.1 dX1_gapBehind_14 ?_
  have h := h.2
  refine kR (kV Cc (mX1_gapOf l D κ a h) (qX1_gapOf hts (tw_350 hts) ⟨(Nat.le_of_ble_eq_true rfl), (Nat.le_of_ble_eq_true rfl)⟩) (va_recv hE.1 hPt (ci := 1) (q0 := 0) rfl rfl) (rest := []) hPt rfl hl.1 rfl (Nat.le_of_ble_eq_true rfl) dX1_gapBehind_15 ⟨Nat.zero_le _, Nat.zero_le _⟩) (fun r15 h => ?_)
  exact W.iret (v := r15) hx hb hr (fun t ht _ => RQ.mk h ht) (fun _ h9 => by cases h9) dX1_gapBehind_18 (hlocks := hlk)
theorem qX1_gapBehind {R : Room} {s : State} {args : Array Value} {own : String} {idx : Nat} (hts : ∀ w ∈ gG, w.before args s = true) (hl : (Cond.methodLink own idx yX1_gapBehind).before args s = true) (hR : rX1_gapBehind.frames + 1 ≤ R.frames ∧ 8 + (2 + 11) + rX1_gapBehind.locals ≤ R.locals) : CallW R s args own RX1 idx yX1_gapBehind cX1_gapBehind 2 (some .int) (wz yX1_gapBehind cX1_gapBehind 2 (some .int)) rX1_gapBehind 0 0 1 := ⟨kw 1 hts mw_349 rfl rfl (tw_71 hts) hl (by decide +kernel) hR, tw_347 hts, tw_348 hts⟩
abbrev rX1_sumOfRow : Room := { frames := 3, cells := 0, slots := 0, locals := 68 }
def pX1_sumOfRow_40s (σ : Mx) (ih40 : Int32 → Int32 → Prop) (Q : Int32 → Prop) (x1 : Int32) (x2 : Int32) : Prop := ((σ 8 0) ≤ (x2 + 1) → (Q x1)) ∧ (¬ (σ 8 0) ≤ (x2 + 1) → (pX1_gapBehind σ x2 (fun r53 => (∀ v57 : Int32, v57 = (x1 + r53) → (ih40 v57 (x2 + 1))))))
noncomputable def pX1_sumOfRow_40 (σ : Mx) (Q : Int32 → Prop) (n : Nat) : Int32 → Int32 → Prop := Nat.rec (motive := fun _ => Int32 → Int32 → Prop) (fun _ _ => False) (fun _ ih => pX1_sumOfRow_40s σ ih Q) n
def pX1_sumOfRow (σ : Mx)  (Q : Int32 → Prop) : Prop := (¬ (σ 8 0) = 0 → (vp_in 0 8 ∧ (pX1_edgeOf σ (σ 4 (0 : Int32).toNatClampNeg) 0 (fun r17 => (vp_in ((σ 8 0) - 1) 8 ∧ (pX1_edgeOf σ (σ 4 ((σ 8 0) - 1).toNatClampNeg) 1 (fun r33 => (∀ v37 : Int32, v37 = (r17 + r33) → (∃ n, pX1_sumOfRow_40 σ Q n v37 0))))))))) ∧ ((σ 8 0) = 0 → (Q 0))
set_option maxHeartbeats 4000000 in
set_option maxRecDepth 100000 in
theorem bX1_sumOfRow_40 {p : Program} {l : Launch} {e : Env} {s : State} {m : MethodId} {args : Array Value} {below : List Frame} {meth : Method} {c : Code} {D : va_G} {κ : Nat → ClassId} {a : Nat → Nat} {σ : Mx}  {Q : Int32 → Prop} (Cc : Cx D κ RX1 cX1_sumOfRow 3 (some .int) p s m args meth c)  (hPt : va_P D classes (wCo κ a σ) s.heap)  (n : Nat) : ∀ (x1 : Int32) (x2 : Int32) (ls : Array Slot) (hl : lv_has ls 3 [(0, .ref (a 0)), (1, .int x1), (2, .int x2)]) (h : pX1_sumOfRow_40 σ Q n x1 x2), W p l e rX1_sumOfRow s m args below meth c s.heap [] 0 0 (MQ below (RQ Q) args s 0 0 (fun _ => False)) (F0 m 40 ls []) := by
  obtain ⟨hx, hb, hml, hown, hts, hr, hlk, hE⟩ := id Cc
  induction n with
  | zero =>
    intro x1 x2 ls hl h
    exact absurd h (fun z => z)
  | succ n hih40 =>
    intro x1 x2 ls hl h
    have h : pX1_sumOfRow_40s σ (pX1_sumOfRow_40 σ Q n) Q x1 x2 := h
    unfold pX1_sumOfRow_40s at h
    refine lv_iload_n hx hb dX1_sumOfRow_40 rfl (lv_at hl 2 rfl) ?_
    refine lv_iconst (v := 1) hx hb dX1_sumOfRow_41 (by decide) ?_
    refine lv_iadd hx hb dX1_sumOfRow_42 ?_
    refine lv_aload_n hx hb dX1_sumOfRow_43 rfl (lv_at hl 0 rfl) ?_
    refine gCo_8 Cc hPt (tw_116 hts) dX1_sumOfRow_44 ?_
    refine lv_icmp_ge (tgt := 64) hx hb dX1_sumOfRow_47 (by decide) (fun c47 => ?_) (fun c47 => ?_)
    · have h := h.1 c47
      refine lv_iload_n hx hb dX1_sumOfRow_64 rfl (lv_at hl 1 rfl) ?_
      exact W.iret (v := x1) hx hb hr (fun t ht _ => RQ.mk h ht) (fun _ h9 => by cases h9) dX1_sumOfRow_65 (hlocks := hlk)
    · have h := h.2 c47
      refine lv_iload_n hx hb dX1_sumOfRow_50 rfl (lv_at hl 1 rfl) ?_
      refine lv_aload_n hx hb dX1_sumOfRow_51 rfl (lv_at hl 0 rfl) ?_
      refine lv_iload_n hx hb dX1_sumOfRow_52 rfl (lv_at hl 2 rfl) ?_
      refine kR (kV Cc (mX1_gapBehind l D κ a h) (qX1_gapBehind hts (tw_346 hts) ⟨(Nat.le_of_ble_eq_true rfl), (Nat.le_of_ble_eq_true rfl)⟩) (va_recv hE.1 hPt (ci := 1) (q0 := 0) rfl rfl) (rest := [.int x1]) hPt rfl hl.1 rfl (Nat.le_of_ble_eq_true rfl) dX1_sumOfRow_53 ⟨Nat.zero_le _, Nat.zero_le _⟩) (fun r53 h => ?_)
      refine lv_iadd hx hb dX1_sumOfRow_56 ?_
      refine lv_topi (fun v57 e57 => ?_)
      have h := h v57 e57
      refine lv_istore_n (lv' := [(1, .int v57), (0, .ref (a 0)), (2, .int x2)]) hx hb dX1_sumOfRow_57 rfl hl (by decide) rfl (fun ls hl => ?_)
      refine lv_iinc (v := (x2 + 1)) (lv' := [(2, .int (x2 + 1)), (1, .int v57), (0, .ref (a 0))]) hx hb dX1_sumOfRow_58 hl (k := 2) rfl rfl (by decide) rfl (fun ls hl => ?_)
      refine lv_goto (tgt := 40) hx hb dX1_sumOfRow_61 (by decide) ?_
      exact hih40 v57 (x2 + 1)  _ (lv_sub hl [2, 1, 0] rfl) h
set_option maxHeartbeats 4000000 in
set_option maxRecDepth 100000 in
theorem mX1_sumOfRow (l : Launch) (D : va_G) (κ : Nat → ClassId) (a : Nat → Nat) {σ : Mx}  {Q : Int32 → Prop}  (h : pX1_sumOfRow σ  Q) : Met l yX1_sumOfRow (wz yX1_sumOfRow cX1_sumOfRow 3 (some .int)) rX1_sumOfRow (va_Pc [.ref (a 0)] (PE D κ (fun H => va_P D classes (wCo κ a σ) H))) (RQ Q) 0 0 (fun _ => False) := by
  refine Met_of l (own := RX1) (by decide) rfl (Nat.le_of_ble_eq_true rfl) (fun p e s m below meth c Cc hPP ls hl => ?_)
  obtain ⟨hx, hb, hml, hown, hts, hr, hlk, hE⟩ := id Cc
  have hl : lv_has ls 3 [(0, .ref (a 0))] := hl
  have hPt := hPP
  unfold pX1_sumOfRow at h
  refine lv_aload_n hx hb dX1_sumOfRow_0 rfl (lv_at hl 0 rfl) ?_
  refine gCo_8 Cc hPt (tw_116 hts) dX1_sumOfRow_1 ?_
  refine lv_if_ne (tgt := 9) hx hb dX1_sumOfRow_4 (by decide) (fun c4 => ?_) (fun c4 => ?_)
  · have h := h.1 c4
    refine lv_aload_n hx hb dX1_sumOfRow_9 rfl (lv_at hl 0 rfl) ?_
    refine lv_aload_n hx hb dX1_sumOfRow_10 rfl (lv_at hl 0 rfl) ?_
    refine gCo_4 Cc hPt (tw_105 hts) dX1_sumOfRow_11 ?_
    refine lv_iconst (v := 0) hx hb dX1_sumOfRow_14 (by decide) ?_
    refine lCo_4 Cc hPt h.1 dX1_sumOfRow_15 ?_
    have h := h.2
    refine lv_iconst (v := 0) hx hb dX1_sumOfRow_16 (by decide) ?_
    refine kR (kV Cc (mX1_edgeOf l D κ a h) (qX1_edgeOf hts (tw_345 hts) ⟨(Nat.le_of_ble_eq_true rfl), (Nat.le_of_ble_eq_true rfl)⟩) (va_recv hE.1 hPt (ci := 1) (q0 := 0) rfl rfl) (rest := []) hPt rfl hl.1 rfl (Nat.le_of_ble_eq_true rfl) dX1_sumOfRow_17 ⟨Nat.zero_le _, Nat.zero_le _⟩) (fun r17 h => ?_)
    refine lv_aload_n hx hb dX1_sumOfRow_20 rfl (lv_at hl 0 rfl) ?_
    refine lv_aload_n hx hb dX1_sumOfRow_21 rfl (lv_at hl 0 rfl) ?_
    refine gCo_4 Cc hPt (tw_105 hts) dX1_sumOfRow_22 ?_
    refine lv_aload_n hx hb dX1_sumOfRow_25 rfl (lv_at hl 0 rfl) ?_
    refine gCo_8 Cc hPt (tw_116 hts) dX1_sumOfRow_26 ?_
    refine lv_iconst (v := 1) hx hb dX1_sumOfRow_29 (by decide) ?_
    refine lv_isub hx hb dX1_sumOfRow_30 ?_
    refine lCo_4 Cc hPt h.1 dX1_sumOfRow_31 ?_
    have h := h.2
    refine lv_iconst (v := 1) hx hb dX1_sumOfRow_32 (by decide) ?_
    refine kR (kV Cc (mX1_edgeOf l D κ a h) (qX1_edgeOf hts (tw_345 hts) ⟨(Nat.le_of_ble_eq_true rfl), (Nat.le_of_ble_eq_true rfl)⟩) (va_recv hE.1 hPt (ci := 1) (q0 := 0) rfl rfl) (rest := [.int r17]) hPt rfl hl.1 rfl (Nat.le_of_ble_eq_true rfl) dX1_sumOfRow_33 ⟨Nat.zero_le _, Nat.zero_le _⟩) (fun r33 h => ?_)
    refine lv_iadd hx hb dX1_sumOfRow_36 ?_
    refine lv_topi (fun v37 e37 => ?_)
    have h := h v37 e37
    refine lv_istore_n (lv' := [(1, .int v37), (0, .ref (a 0))]) hx hb dX1_sumOfRow_37 rfl hl (by decide) rfl (fun ls hl => ?_)
    refine lv_iconst (v := 0) hx hb dX1_sumOfRow_38 (by decide) ?_
    refine lv_istore_n (lv' := [(2, .int 0), (1, .int v37), (0, .ref (a 0))]) hx hb dX1_sumOfRow_39 rfl hl (by decide) rfl (fun ls hl => ?_)
    obtain ⟨n, h⟩ := h
    exact bX1_sumOfRow_40 Cc hPt n v37 0  _ (lv_sub hl [2, 1, 0] rfl) h
  · have h := h.2 c4
    refine lv_iconst (v := 0) hx hb dX1_sumOfRow_7 (by decide) ?_
    exact W.iret (v := 0) hx hb hr (fun t ht _ => RQ.mk h ht) (fun _ h9 => by cases h9) dX1_sumOfRow_8 (hlocks := hlk)
theorem qX1_sumOfRow {R : Room} {s : State} {args : Array Value} {own : String} {idx : Nat} (hts : ∀ w ∈ gG, w.before args s = true) (hl : (Cond.methodLink own idx yX1_sumOfRow).before args s = true) (hR : rX1_sumOfRow.frames + 1 ≤ R.frames ∧ 8 + (3 + 11) + rX1_sumOfRow.locals ≤ R.locals) : CallW R s args own RX1 idx yX1_sumOfRow cX1_sumOfRow 3 (some .int) (wz yX1_sumOfRow cX1_sumOfRow 3 (some .int)) rX1_sumOfRow 0 0 0 := ⟨kw 0 hts mw_344 rfl rfl (tw_71 hts) hl (by decide +kernel) hR, tw_342 hts, tw_343 hts⟩
abbrev rX1_exchange : Room := { frames := 1, cells := 0, slots := 0, locals := 21 }
def pX1_exchange_42 (Q : Mx → Prop) (σ : Mx) : Prop := Q σ
def pX1_exchange (σ : Mx) (x1 : Int32) (x2 : Int32) (Q : Mx → Prop) : Prop := pX1_has σ x1 (fun r2 => ((r2 = 0 → (pX1_exchange_42 Q σ)) ∧ (¬ r2 = 0 → (pX1_has σ x2 (fun r10 => ((r10 = 0 → (pX1_exchange_42 Q σ)) ∧ (¬ r10 = 0 → (vp_in x1 8 ∧ (∀ v22 : Int32, v22 = (σ 4 x1.toNatClampNeg) → (vp_in x2 8 ∧ (vp_in x1 8 ∧ (vp_in x2 8 ∧ (pX1_exchange_42 Q (st (st σ 4 x1.toNatClampNeg (σ 4 x2.toNatClampNeg)) 4 x2.toNatClampNeg v22))))))))))))))
set_option maxHeartbeats 4000000 in
set_option maxRecDepth 100000 in
theorem bX1_exchange_42 {p : Program} {l : Launch} {e : Env} {s : State} {m : MethodId} {args : Array Value} {below : List Frame} {meth : Method} {c : Code} {D : va_G} {κ : Nat → ClassId} {a : Nat → Nat}   {Q : Mx → Prop} (Cc : Cx D κ RX1 cX1_exchange 4 none p s m args meth c) (hIt : Ij a 8)   : ∀ (σ : Mx) (H : Heap) (locs : List Loc) (hPt : va_P D classes (wCo κ a σ) H) (hS : va_S (cA a 8) s.heap H locs) (ls : Array Slot) (hl : lv_has ls 4 []) (h : pX1_exchange_42 Q σ), W p l e rX1_exchange s m args below meth c H locs 0 0 (MQ below (QWv Q (fun u H => va_P D classes (wCo κ a u) H) (cA a 8)) args s 0 0 (cA a 8)) (F0 m 42 ls []) := by
  obtain ⟨hx, hb, hml, hown, hts, hr, hlk, hE⟩ := id Cc
  intro σ H locs hPt hS ls hl h
  unfold pX1_exchange_42 at h
  exact W.vret hx hb hr (fun t ht _ => QWv.mk (u := σ) h hPt hS ht) hS.2.2 dX1_exchange_42 (hlocks := hlk)
set_option maxHeartbeats 4000000 in
set_option maxRecDepth 100000 in
theorem mX1_exchange (l : Launch) (D : va_G) (κ : Nat → ClassId) (a : Nat → Nat) {σ : Mx} {x1 : Int32} {x2 : Int32} {Q : Mx → Prop} (hIt : Ij a 8) (h : pX1_exchange σ x1 x2 Q) : Met l yX1_exchange (wz yX1_exchange cX1_exchange 4 none) rX1_exchange (va_Pc [.ref (a 0), .int x1, .int x2] (PE D κ (fun H => va_P D classes (wCo κ a σ) H))) (QWv Q (fun u H => va_P D classes (wCo κ a u) H) (cA a 8)) 0 0 (cA a 8) := by
  refine Met_of l (own := RX1) (by decide) rfl (Nat.le_of_ble_eq_true rfl) (fun p e s m below meth c Cc hPP ls hl => ?_)
  obtain ⟨hx, hb, hml, hown, hts, hr, hlk, hE⟩ := id Cc
  have hl : lv_has ls 4 [(0, .ref (a 0)), (1, .int x1), (2, .int x2)] := hl
  have hPt := hPP
  have hS : va_S (cA a 8) s.heap s.heap [] := va_S.rf
  unfold pX1_exchange at h
  refine lv_aload_n hx hb dX1_exchange_0 rfl (lv_at hl 0 rfl) ?_
  refine lv_iload_n hx hb dX1_exchange_1 rfl (lv_at hl 1 rfl) ?_
  refine kR (kV Cc (mX1_has l D κ a h) (qX1_has hts (tw_340 hts) ⟨(Nat.le_of_ble_eq_true rfl), (Nat.le_of_ble_eq_true rfl)⟩) (va_recv hE.1 hPt (ci := 1) (q0 := 0) rfl rfl) (rest := []) hPt rfl hl.1 rfl (Nat.le_of_ble_eq_true rfl) dX1_exchange_2 ⟨Nat.zero_le _, Nat.zero_le _⟩) (fun r2 h => ?_)
  refine lv_if_eq (tgt := 42) hx hb dX1_exchange_5 (by decide) (fun c5 => ?_) (fun c5 => ?_)
  · have h := h.1 c5
    exact bX1_exchange_42 Cc hIt σ _ _ hPt hS _ (lv_sub hl [] rfl) h
  · have h := h.2 c5
    refine lv_aload_n hx hb dX1_exchange_8 rfl (lv_at hl 0 rfl) ?_
    refine lv_iload_n hx hb dX1_exchange_9 rfl (lv_at hl 2 rfl) ?_
    refine kR (kV Cc (mX1_has l D κ a h) (qX1_has hts (tw_340 hts) ⟨(Nat.le_of_ble_eq_true rfl), (Nat.le_of_ble_eq_true rfl)⟩) (va_recv hE.1 hPt (ci := 1) (q0 := 0) rfl rfl) (rest := []) hPt rfl hl.1 rfl (Nat.le_of_ble_eq_true rfl) dX1_exchange_10 ⟨Nat.zero_le _, Nat.zero_le _⟩) (fun r10 h => ?_)
    refine lv_if_eq (tgt := 42) hx hb dX1_exchange_13 (by decide) (fun c13 => ?_) (fun c13 => ?_)
    · have h := h.1 c13
      exact bX1_exchange_42 Cc hIt σ _ _ hPt hS _ (lv_sub hl [] rfl) h
    · have h := h.2 c13
      refine lv_aload_n hx hb dX1_exchange_16 rfl (lv_at hl 0 rfl) ?_
      refine gCo_4 Cc hPt (tw_105 hts) dX1_exchange_17 ?_
      refine lv_iload_n hx hb dX1_exchange_20 rfl (lv_at hl 1 rfl) ?_
      refine lCo_4 Cc hPt h.1 dX1_exchange_21 ?_
      have h := h.2
      refine lv_topi (fun v22 e22 => ?_)
      have h := h v22 e22
      refine lv_istore_n (lv' := [(3, .int v22), (0, .ref (a 0)), (1, .int x1), (2, .int x2)]) hx hb dX1_exchange_22 rfl hl (by decide) rfl (fun ls hl => ?_)
      refine lv_aload_n hx hb dX1_exchange_23 rfl (lv_at hl 1 rfl) ?_
      refine gCo_4 Cc hPt (tw_105 hts) dX1_exchange_24 ?_
      refine lv_iload_n hx hb dX1_exchange_27 rfl (lv_at hl 2 rfl) ?_
      refine lv_aload_n hx hb dX1_exchange_28 rfl (lv_at hl 1 rfl) ?_
      refine gCo_4 Cc hPt (tw_105 hts) dX1_exchange_29 ?_
      refine lv_iload_n hx hb dX1_exchange_32 rfl (lv_at hl 3 rfl) ?_
      refine lCo_4 Cc hPt h.1 dX1_exchange_33 ?_
      have h := h.2
      refine sCo_4 Cc hPt hIt hS ⟨5, by decide, rfl⟩ h.1 dX1_exchange_34 (fun H1 locs1 hB hS1 hk => ?_)
      have h := h.2
      have hPt := hB
      have hS := hS1
      refine lv_aload_n hx hb dX1_exchange_35 rfl (lv_at hl 1 rfl) ?_
      refine gCo_4 Cc hPt (tw_105 hts) dX1_exchange_36 ?_
      refine lv_iload_n hx hb dX1_exchange_39 rfl (lv_at hl 3 rfl) ?_
      refine lv_iload_n hx hb dX1_exchange_40 rfl (lv_at hl 0 rfl) ?_
      refine sCo_4 Cc hPt hIt hS ⟨5, by decide, rfl⟩ h.1 dX1_exchange_41 (fun H1 locs1 hB hS1 hk => ?_)
      have h := h.2
      have hPt := hB
      have hS := hS1
      exact bX1_exchange_42 Cc hIt (st (st σ 4 x1.toNatClampNeg (σ 4 x2.toNatClampNeg)) 4 x2.toNatClampNeg v22) _ _ hPt hS _ (lv_sub hl [] rfl) h
theorem qX1_exchange {R : Room} {s : State} {args : Array Value} {own : String} {idx : Nat} (hts : ∀ w ∈ gG, w.before args s = true) (hl : (Cond.methodLink own idx yX1_exchange).before args s = true) (hR : rX1_exchange.frames + 1 ≤ R.frames ∧ 8 + (4 + 11) + rX1_exchange.locals ≤ R.locals) : CallW R s args own RX1 idx yX1_exchange cX1_exchange 4 none (wz yX1_exchange cX1_exchange 4 none) rX1_exchange 0 0 2 := ⟨kw 2 hts mw_339 rfl rfl (tw_71 hts) hl (by decide +kernel) hR, tw_337 hts, tw_338 hts⟩
abbrev rX1_cut : Room := { frames := 1, cells := 0, slots := 0, locals := 24 }
def pX1_cut_2s  (ih2 : Int32 → Mx → Prop) (Q : Mx → Prop) (x1 : Int32) (σ : Mx) : Prop := ((σ 8 0) ≤ x1 → (Q σ)) ∧ (¬ (σ 8 0) ≤ x1 → (vp_in x1 8 ∧ (pX1_growsOf σ x1 (fun r23 => (vp_in x1 8 ∧ (ih2 (x1 + 1) (st σ 1 x1.toNatClampNeg (((σ 1 x1.toNatClampNeg) + r23) - ((σ 1 x1.toNatClampNeg) + r23) / 10 * 10))))))))
noncomputable def pX1_cut_2 (Q : Mx → Prop) (n : Nat) : Int32 → Mx → Prop := Nat.rec (motive := fun _ => Int32 → Mx → Prop) (fun _ _ => False) (fun _ ih => pX1_cut_2s ih Q) n
def pX1_cut (σ : Mx)  (Q : Mx → Prop) : Prop := ∃ n, pX1_cut_2 Q n 0 σ
set_option maxHeartbeats 4000000 in
set_option maxRecDepth 100000 in
theorem bX1_cut_2 {p : Program} {l : Launch} {e : Env} {s : State} {m : MethodId} {args : Array Value} {below : List Frame} {meth : Method} {c : Code} {D : va_G} {κ : Nat → ClassId} {a : Nat → Nat}   {Q : Mx → Prop} (Cc : Cx D κ RX1 cX1_cut 2 none p s m args meth c) (hIt : Ij a 8)   (n : Nat) : ∀ (x1 : Int32) (σ : Mx) (H : Heap) (locs : List Loc) (hPt : va_P D classes (wCo κ a σ) H) (hS : va_S (cA a 8) s.heap H locs) (ls : Array Slot) (hl : lv_has ls 2 [(0, .ref (a 0)), (1, .int x1)]) (h : pX1_cut_2 Q n x1 σ), W p l e rX1_cut s m args below meth c H locs 0 0 (MQ below (QWv Q (fun u H => va_P D classes (wCo κ a u) H) (cA a 8)) args s 0 0 (cA a 8)) (F0 m 2 ls []) := by
  obtain ⟨hx, hb, hml, hown, hts, hr, hlk, hE⟩ := id Cc
  induction n with
  | zero =>
    intro x1 σ H locs hPt hS ls hl h
    exact absurd h (fun z => z)
  | succ n hih2 =>
    intro x1 σ H locs hPt hS ls hl h
    have h : pX1_cut_2s (pX1_cut_2 Q n) Q x1 σ := h
    unfold pX1_cut_2s at h
    refine lv_iload_n hx hb dX1_cut_2 rfl (lv_at hl 1 rfl) ?_
    refine lv_aload_n hx hb dX1_cut_3 rfl (lv_at hl 0 rfl) ?_
    refine gCo_8 Cc hPt (tw_116 hts) dX1_cut_4 ?_
    refine lv_icmp_ge (tgt := 37) hx hb dX1_cut_7 (by decide) (fun c7 => ?_) (fun c7 => ?_)
    · have h := h.1 c7
      exact W.vret hx hb hr (fun t ht _ => QWv.mk (u := σ) h hPt hS ht) hS.2.2 dX1_cut_37 (hlocks := hlk)
    · have h := h.2 c7
      refine lv_aload_n hx hb dX1_cut_10 rfl (lv_at hl 0 rfl) ?_
      refine gCo_1 Cc hPt (tw_99 hts) dX1_cut_11 ?_
      refine lv_iload_n hx hb dX1_cut_14 rfl (lv_at hl 1 rfl) ?_
      refine lv_aload_n hx hb dX1_cut_15 rfl (lv_at hl 0 rfl) ?_
      refine gCo_1 Cc hPt (tw_99 hts) dX1_cut_16 ?_
      refine lv_iload_n hx hb dX1_cut_19 rfl (lv_at hl 1 rfl) ?_
      refine lCo_1 Cc hPt h.1 dX1_cut_20 ?_
      have h := h.2
      refine lv_aload_n hx hb dX1_cut_21 rfl (lv_at hl 0 rfl) ?_
      refine lv_iload_n hx hb dX1_cut_22 rfl (lv_at hl 1 rfl) ?_
      refine kR (kV Cc (mX1_growsOf l D κ a h) (qX1_growsOf hts (tw_283 hts) ⟨(Nat.le_of_ble_eq_true rfl), (Nat.le_of_ble_eq_true rfl)⟩) (va_recv hE.1 hPt (ci := 1) (q0 := 0) rfl rfl) (rest := [.int (σ 1 x1.toNatClampNeg), .int x1, .ref (a 2)]) hPt rfl hl.1 rfl (Nat.le_of_ble_eq_true rfl) dX1_cut_23 ⟨Nat.zero_le _, Nat.zero_le _⟩) (fun r23 h => ?_)
      refine lv_iadd hx hb dX1_cut_26 ?_
      refine lv_bipush (v := 10) hx hb dX1_cut_27 (by decide) ?_
      refine lv_irem hx hb dX1_cut_29 (by decide) ?_
      refine sCo_1 Cc hPt hIt hS ⟨2, by decide, rfl⟩ h.1 dX1_cut_30 (fun H1 locs1 hB hS1 hk => ?_)
      have h := h.2
      have hPt := hB
      have hS := hS1
      refine lv_iinc (v := (x1 + 1)) (lv' := [(1, .int (x1 + 1)), (0, .ref (a 0))]) hx hb dX1_cut_31 hl (k := 1) rfl rfl (by decide) rfl (fun ls hl => ?_)
      refine lv_goto (tgt := 2) hx hb dX1_cut_34 (by decide) ?_
      exact hih2 (x1 + 1) (st σ 1 x1.toNatClampNeg (((σ 1 x1.toNatClampNeg) + r23) - ((σ 1 x1.toNatClampNeg) + r23) / 10 * 10)) _ _ hPt hS _ (lv_sub hl [1, 0] rfl) h
set_option maxHeartbeats 4000000 in
set_option maxRecDepth 100000 in
theorem mX1_cut (l : Launch) (D : va_G) (κ : Nat → ClassId) (a : Nat → Nat) {σ : Mx}  {Q : Mx → Prop} (hIt : Ij a 8) (h : pX1_cut σ  Q) : Met l yX1_cut (wz yX1_cut cX1_cut 2 none) rX1_cut (va_Pc [.ref (a 0)] (PE D κ (fun H => va_P D classes (wCo κ a σ) H))) (QWv Q (fun u H => va_P D classes (wCo κ a u) H) (cA a 8)) 0 0 (cA a 8) := by
  refine Met_of l (own := RX1) (by decide) rfl (Nat.le_of_ble_eq_true rfl) (fun p e s m below meth c Cc hPP ls hl => ?_)
  obtain ⟨hx, hb, hml, hown, hts, hr, hlk, hE⟩ := id Cc
  have hl : lv_has ls 2 [(0, .ref (a 0))] := hl
  have hPt := hPP
  have hS : va_S (cA a 8) s.heap s.heap [] := va_S.rf
  unfold pX1_cut at h
  refine lv_iconst (v := 0) hx hb dX1_cut_0 (by decide) ?_
  refine lv_istore_n (lv' := [(1, .int 0), (0, .ref (a 0))]) hx hb dX1_cut_1 rfl hl (by decide) rfl (fun ls hl => ?_)
  obtain ⟨n, h⟩ := h
  exact bX1_cut_2 Cc hIt n 0 σ _ _ hPt hS _ (lv_sub hl [1, 0] rfl) h
theorem qX1_cut {R : Room} {s : State} {args : Array Value} {own : String} {idx : Nat} (hts : ∀ w ∈ gG, w.before args s = true) (hl : (Cond.methodLink own idx yX1_cut).before args s = true) (hR : rX1_cut.frames + 1 ≤ R.frames ∧ 8 + (2 + 11) + rX1_cut.locals ≤ R.locals) : CallW R s args own RX1 idx yX1_cut cX1_cut 2 none (wz yX1_cut cX1_cut 2 none) rX1_cut 0 0 0 := ⟨kw 0 hts mw_368 rfl rfl (tw_71 hts) hl (by decide +kernel) hR, tw_366 hts, tw_367 hts⟩
abbrev rX1_passYear : Room := { frames := 2, cells := 0, slots := 0, locals := 45 }
def pX1_passYear_58 (Q : Mx → Prop) (σ : Mx) : Prop := Q σ
def pX1_passYear_39 (Q : Mx → Prop) (σ : Mx) : Prop := (99999 ≤ (σ 9 0) → (pX1_passYear_58 Q σ)) ∧ (¬ 99999 ≤ (σ 9 0) → (pX1_passYear_58 Q (st σ 9 0 ((σ 9 0) + 1))))
def pX1_passYear (σ : Mx)  (Q : Mx → Prop) : Prop := vp_in ((σ 9 0) - (σ 9 0) / 6 * 6) 6 ∧ (∀ v12 : Int32, v12 = (σ 5 ((σ 9 0) - (σ 9 0) / 6 * 6).toNatClampNeg) → (pX1_exchange σ (v12 / 10) (v12 - v12 / 10 * 10) (fun u22 => ((¬ ((u22 9 0) - (u22 9 0) / 3 * 3) = 2 → (pX1_passYear_39 Q u22)) ∧ (((u22 9 0) - (u22 9 0) / 3 * 3) = 2 → (pX1_cut u22 (fun u36 => (pX1_passYear_39 Q u36))))))))
set_option maxHeartbeats 4000000 in
set_option maxRecDepth 100000 in
theorem bX1_passYear_58 {p : Program} {l : Launch} {e : Env} {s : State} {m : MethodId} {args : Array Value} {below : List Frame} {meth : Method} {c : Code} {D : va_G} {κ : Nat → ClassId} {a : Nat → Nat}   {Q : Mx → Prop} (Cc : Cx D κ RX1 cX1_passYear 2 none p s m args meth c) (hIt : Ij a 8)   : ∀ (σ : Mx) (H : Heap) (locs : List Loc) (hPt : va_P D classes (wCo κ a σ) H) (hS : va_S (cA a 8) s.heap H locs) (ls : Array Slot) (hl : lv_has ls 2 []) (h : pX1_passYear_58 Q σ), W p l e rX1_passYear s m args below meth c H locs 0 0 (MQ below (QWv Q (fun u H => va_P D classes (wCo κ a u) H) (cA a 8)) args s 0 0 (cA a 8)) (F0 m 58 ls []) := by
  obtain ⟨hx, hb, hml, hown, hts, hr, hlk, hE⟩ := id Cc
  intro σ H locs hPt hS ls hl h
  unfold pX1_passYear_58 at h
  exact W.vret hx hb hr (fun t ht _ => QWv.mk (u := σ) h hPt hS ht) hS.2.2 dX1_passYear_58 (hlocks := hlk)
set_option maxHeartbeats 4000000 in
set_option maxRecDepth 100000 in
theorem bX1_passYear_39 {p : Program} {l : Launch} {e : Env} {s : State} {m : MethodId} {args : Array Value} {below : List Frame} {meth : Method} {c : Code} {D : va_G} {κ : Nat → ClassId} {a : Nat → Nat}   {Q : Mx → Prop} (Cc : Cx D κ RX1 cX1_passYear 2 none p s m args meth c) (hIt : Ij a 8)   : ∀ (σ : Mx) (H : Heap) (locs : List Loc) (hPt : va_P D classes (wCo κ a σ) H) (hS : va_S (cA a 8) s.heap H locs) (ls : Array Slot) (hl : lv_has ls 2 [(0, .ref (a 0))]) (h : pX1_passYear_39 Q σ), W p l e rX1_passYear s m args below meth c H locs 0 0 (MQ below (QWv Q (fun u H => va_P D classes (wCo κ a u) H) (cA a 8)) args s 0 0 (cA a 8)) (F0 m 39 ls []) := by
  obtain ⟨hx, hb, hml, hown, hts, hr, hlk, hE⟩ := id Cc
  intro σ H locs hPt hS ls hl h
  unfold pX1_passYear_39 at h
  refine lv_aload_n hx hb dX1_passYear_39 rfl (lv_at hl 0 rfl) ?_
  refine gCo_9 Cc hPt (tw_119 hts) dX1_passYear_40 ?_
  refine lv_ldc (own := RX1) (v := 99999) hx hb hown (tw_369 hts) dX1_passYear_43 ?_
  refine lv_icmp_ge (tgt := 58) hx hb dX1_passYear_45 (by decide) (fun c45 => ?_) (fun c45 => ?_)
  · have h := h.1 c45
    exact bX1_passYear_58 Cc hIt σ _ _ hPt hS _ (lv_sub hl [] rfl) h
  · have h := h.2 c45
    refine lv_aload_n hx hb dX1_passYear_48 rfl (lv_at hl 0 rfl) ?_
    refine lv_dup hx hb dX1_passYear_49 rfl ?_
    refine gCo_9 Cc hPt (tw_119 hts) dX1_passYear_50 ?_
    refine lv_iconst (v := 1) hx hb dX1_passYear_53 (by decide) ?_
    refine lv_iadd hx hb dX1_passYear_54 ?_
    refine uCo_9 Cc hPt hIt hS ⟨0, by decide, rfl⟩ (tw_119 hts) dX1_passYear_55 (fun H1 locs1 hB hS1 hk => ?_)
    have hPt := hB
    have hS := hS1
    exact bX1_passYear_58 Cc hIt (st σ 9 0 ((σ 9 0) + 1)) _ _ hPt hS _ (lv_sub hl [] rfl) h
set_option maxHeartbeats 4000000 in
set_option maxRecDepth 100000 in
theorem mX1_passYear (l : Launch) (D : va_G) (κ : Nat → ClassId) (a : Nat → Nat) {σ : Mx}  {Q : Mx → Prop} (hIt : Ij a 8) (h : pX1_passYear σ  Q) : Met l yX1_passYear (wz yX1_passYear cX1_passYear 2 none) rX1_passYear (va_Pc [.ref (a 0)] (PE D κ (fun H => va_P D classes (wCo κ a σ) H))) (QWv Q (fun u H => va_P D classes (wCo κ a u) H) (cA a 8)) 0 0 (cA a 8) := by
  refine Met_of l (own := RX1) (by decide) rfl (Nat.le_of_ble_eq_true rfl) (fun p e s m below meth c Cc hPP ls hl => ?_)
  obtain ⟨hx, hb, hml, hown, hts, hr, hlk, hE⟩ := id Cc
  have hl : lv_has ls 2 [(0, .ref (a 0))] := hl
  have hPt := hPP
  have hS : va_S (cA a 8) s.heap s.heap [] := va_S.rf
  unfold pX1_passYear at h
  refine lv_aload_n hx hb dX1_passYear_0 rfl (lv_at hl 0 rfl) ?_
  refine gCo_5 Cc hPt (tw_107 hts) dX1_passYear_1 ?_
  refine lv_aload_n hx hb dX1_passYear_4 rfl (lv_at hl 0 rfl) ?_
  refine gCo_9 Cc hPt (tw_119 hts) dX1_passYear_5 ?_
  refine lv_bipush (v := 6) hx hb dX1_passYear_8 (by decide) ?_
  refine lv_irem hx hb dX1_passYear_10 (by decide) ?_
  refine lCo_5 Cc hPt h.1 dX1_passYear_11 ?_
  have h := h.2
  refine lv_topi (fun v12 e12 => ?_)
  have h := h v12 e12
  refine lv_istore_n (lv' := [(1, .int v12), (0, .ref (a 0))]) hx hb dX1_passYear_12 rfl hl (by decide) rfl (fun ls hl => ?_)
  refine lv_aload_n hx hb dX1_passYear_13 rfl (lv_at hl 1 rfl) ?_
  refine lv_iload_n hx hb dX1_passYear_14 rfl (lv_at hl 0 rfl) ?_
  refine lv_bipush (v := 10) hx hb dX1_passYear_15 (by decide) ?_
  refine lv_idiv hx hb dX1_passYear_17 (by decide) ?_
  refine lv_iload_n hx hb dX1_passYear_18 rfl (lv_at hl 0 rfl) ?_
  refine lv_bipush (v := 10) hx hb dX1_passYear_19 (by decide) ?_
  refine lv_irem hx hb dX1_passYear_21 (by decide) ?_
  refine kWv (kV Cc (mX1_exchange l D κ a hIt h) (qX1_exchange hts (tw_364 hts) ⟨(Nat.le_of_ble_eq_true rfl), (Nat.le_of_ble_eq_true rfl)⟩) (va_recv hE.1 hPt (ci := 1) (q0 := 0) rfl rfl) (rest := []) hPt rfl hl.1 rfl (Nat.le_of_ble_eq_true rfl) dX1_passYear_22 ⟨Nat.zero_le _, Nat.zero_le _⟩) hS (fun q h9 => h9) (fun  u22 H1 locs1 h hB hk hS1 => ?_)
  have hPt := hB
  have hS := hS1
  refine lv_aload_n hx hb dX1_passYear_25 rfl (lv_at hl 1 rfl) ?_
  refine gCo_9 Cc hPt (tw_119 hts) dX1_passYear_26 ?_
  refine lv_iconst (v := 3) hx hb dX1_passYear_29 (by decide) ?_
  refine lv_irem hx hb dX1_passYear_30 (by decide) ?_
  refine lv_iconst (v := 2) hx hb dX1_passYear_31 (by decide) ?_
  refine lv_icmp_ne (tgt := 39) hx hb dX1_passYear_32 (by decide) (fun c32 => ?_) (fun c32 => ?_)
  · have h := h.1 c32
    exact bX1_passYear_39 Cc hIt u22 _ _ hPt hS _ (lv_sub hl [1] rfl) h
  · have h := h.2 c32
    refine lv_aload_n hx hb dX1_passYear_35 rfl (lv_at hl 1 rfl) ?_
    refine kWv (kV Cc (mX1_cut l D κ a hIt h) (qX1_cut hts (tw_365 hts) ⟨(Nat.le_of_ble_eq_true rfl), (Nat.le_of_ble_eq_true rfl)⟩) (va_recv hE.1 hPt (ci := 1) (q0 := 0) rfl rfl) (rest := []) hPt rfl hl.1 rfl (Nat.le_of_ble_eq_true rfl) dX1_passYear_36 ⟨Nat.zero_le _, Nat.zero_le _⟩) hS (fun q h9 => h9) (fun  u36 H1 locs1 h hB hk hS1 => ?_)
    have hPt := hB
    have hS := hS1
    exact bX1_passYear_39 Cc hIt u36 _ _ hPt hS _ (lv_sub hl [1] rfl) h
theorem qX1_passYear {R : Room} {s : State} {args : Array Value} {own : String} {idx : Nat} (hts : ∀ w ∈ gG, w.before args s = true) (hl : (Cond.methodLink own idx yX1_passYear).before args s = true) (hR : rX1_passYear.frames + 1 ≤ R.frames ∧ 8 + (2 + 11) + rX1_passYear.locals ≤ R.locals) : CallW R s args own RX1 idx yX1_passYear cX1_passYear 2 none (wz yX1_passYear cX1_passYear 2 none) rX1_passYear 0 0 0 := ⟨kw 0 hts mw_363 rfl rfl (tw_71 hts) hl (by decide +kernel) hR, tw_361 hts, tw_362 hts⟩
abbrev rX1_passYears : Room := { frames := 3, cells := 0, slots := 0, locals := 66 }
def pX1_passYears_2s  (ih2 : Int32 → Int32 → Mx → Prop) (Q : Mx → Prop) (x1 : Int32) (x2 : Int32) (σ : Mx) : Prop := (x1 ≤ x2 → (Q σ)) ∧ (¬ x1 ≤ x2 → (pX1_passYear σ (fun u8 => (ih2 x1 (x2 + 1) u8))))
noncomputable def pX1_passYears_2 (Q : Mx → Prop) (n : Nat) : Int32 → Int32 → Mx → Prop := Nat.rec (motive := fun _ => Int32 → Int32 → Mx → Prop) (fun _ _ _ => False) (fun _ ih => pX1_passYears_2s ih Q) n
def pX1_passYears (σ : Mx) (x1 : Int32) (Q : Mx → Prop) : Prop := ∃ n, pX1_passYears_2 Q n x1 0 σ
set_option maxHeartbeats 4000000 in
set_option maxRecDepth 100000 in
theorem bX1_passYears_2 {p : Program} {l : Launch} {e : Env} {s : State} {m : MethodId} {args : Array Value} {below : List Frame} {meth : Method} {c : Code} {D : va_G} {κ : Nat → ClassId} {a : Nat → Nat}   {Q : Mx → Prop} (Cc : Cx D κ RX1 cX1_passYears 3 none p s m args meth c) (hIt : Ij a 8)   (n : Nat) : ∀ (x1 : Int32) (x2 : Int32) (σ : Mx) (H : Heap) (locs : List Loc) (hPt : va_P D classes (wCo κ a σ) H) (hS : va_S (cA a 8) s.heap H locs) (ls : Array Slot) (hl : lv_has ls 3 [(0, .ref (a 0)), (1, .int x1), (2, .int x2)]) (h : pX1_passYears_2 Q n x1 x2 σ), W p l e rX1_passYears s m args below meth c H locs 0 0 (MQ below (QWv Q (fun u H => va_P D classes (wCo κ a u) H) (cA a 8)) args s 0 0 (cA a 8)) (F0 m 2 ls []) := by
  obtain ⟨hx, hb, hml, hown, hts, hr, hlk, hE⟩ := id Cc
  induction n with
  | zero =>
    intro x1 x2 σ H locs hPt hS ls hl h
    exact absurd h (fun z => z)
  | succ n hih2 =>
    intro x1 x2 σ H locs hPt hS ls hl h
    have h : pX1_passYears_2s (pX1_passYears_2 Q n) Q x1 x2 σ := h
    unfold pX1_passYears_2s at h
    refine lv_iload_n hx hb dX1_passYears_2 rfl (lv_at hl 2 rfl) ?_
    refine lv_iload_n hx hb dX1_passYears_3 rfl (lv_at hl 1 rfl) ?_
    refine lv_icmp_ge (tgt := 17) hx hb dX1_passYears_4 (by decide) (fun c4 => ?_) (fun c4 => ?_)
    · have h := h.1 c4
      exact W.vret hx hb hr (fun t ht _ => QWv.mk (u := σ) h hPt hS ht) hS.2.2 dX1_passYears_17 (hlocks := hlk)
    · have h := h.2 c4
      refine lv_aload_n hx hb dX1_passYears_7 rfl (lv_at hl 0 rfl) ?_
      refine kWv (kV Cc (mX1_passYear l D κ a hIt h) (qX1_passYear hts (tw_360 hts) ⟨(Nat.le_of_ble_eq_true rfl), (Nat.le_of_ble_eq_true rfl)⟩) (va_recv hE.1 hPt (ci := 1) (q0 := 0) rfl rfl) (rest := []) hPt rfl hl.1 rfl (Nat.le_of_ble_eq_true rfl) dX1_passYears_8 ⟨Nat.zero_le _, Nat.zero_le _⟩) hS (fun q h9 => h9) (fun  u8 H1 locs1 h hB hk hS1 => ?_)
      have hPt := hB
      have hS := hS1
      refine lv_iinc (v := (x2 + 1)) (lv' := [(2, .int (x2 + 1)), (0, .ref (a 0)), (1, .int x1)]) hx hb dX1_passYears_11 hl (k := 2) rfl rfl (by decide) rfl (fun ls hl => ?_)
      refine lv_goto (tgt := 2) hx hb dX1_passYears_14 (by decide) ?_
      exact hih2 x1 (x2 + 1) u8 _ _ hPt hS _ (lv_sub hl [1, 2, 0] rfl) h
set_option maxHeartbeats 4000000 in
set_option maxRecDepth 100000 in
theorem mX1_passYears (l : Launch) (D : va_G) (κ : Nat → ClassId) (a : Nat → Nat) {σ : Mx} {x1 : Int32} {Q : Mx → Prop} (hIt : Ij a 8) (h : pX1_passYears σ x1 Q) : Met l yX1_passYears (wz yX1_passYears cX1_passYears 3 none) rX1_passYears (va_Pc [.ref (a 0), .int x1] (PE D κ (fun H => va_P D classes (wCo κ a σ) H))) (QWv Q (fun u H => va_P D classes (wCo κ a u) H) (cA a 8)) 0 0 (cA a 8) := by
  refine Met_of l (own := RX1) (by decide) rfl (Nat.le_of_ble_eq_true rfl) (fun p e s m below meth c Cc hPP ls hl => ?_)
  obtain ⟨hx, hb, hml, hown, hts, hr, hlk, hE⟩ := id Cc
  have hl : lv_has ls 3 [(0, .ref (a 0)), (1, .int x1)] := hl
  have hPt := hPP
  have hS : va_S (cA a 8) s.heap s.heap [] := va_S.rf
  unfold pX1_passYears at h
  refine lv_iconst (v := 0) hx hb dX1_passYears_0 (by decide) ?_
  refine lv_istore_n (lv' := [(2, .int 0), (0, .ref (a 0)), (1, .int x1)]) hx hb dX1_passYears_1 rfl hl (by decide) rfl (fun ls hl => ?_)
  obtain ⟨n, h⟩ := h
  exact bX1_passYears_2 Cc hIt n x1 0 σ _ _ hPt hS _ (lv_sub hl [1, 2, 0] rfl) h
theorem qX1_passYears {R : Room} {s : State} {args : Array Value} {own : String} {idx : Nat} (hts : ∀ w ∈ gG, w.before args s = true) (hl : (Cond.methodLink own idx yX1_passYears).before args s = true) (hR : rX1_passYears.frames + 1 ≤ R.frames ∧ 8 + (3 + 11) + rX1_passYears.locals ≤ R.locals) : CallW R s args own RX1 idx yX1_passYears cX1_passYears 3 none (wz yX1_passYears cX1_passYears 3 none) rX1_passYears 0 0 1 := ⟨kw 1 hts mw_359 rfl rfl (tw_71 hts) hl (by decide +kernel) hR, tw_357 hts, tw_358 hts⟩
abbrev rX1_draw : Room := { frames := 0, cells := 0, slots := 0, locals := 0 }
def pX1_draw (σ : Mx)  (Q : Int32 → Mx → Prop) : Prop := Q ((((st σ 10 0 (((σ 10 0) * 1103515245) + 12345)) 10 0).toUInt32 >>> ((8 : Int32).toUInt32 &&& Int32.toUInt32 31)).toInt32) (st σ 10 0 (((σ 10 0) * 1103515245) + 12345))
set_option maxHeartbeats 4000000 in
set_option maxRecDepth 100000 in
theorem mX1_draw (l : Launch) (D : va_G) (κ : Nat → ClassId) (a : Nat → Nat) {σ : Mx}  {Q : Int32 → Mx → Prop} (hIt : Ij a 8) (h : pX1_draw σ  Q) : Met l yX1_draw (wz yX1_draw cX1_draw 1 (some .int)) rX1_draw (va_Pc [.ref (a 0)] (PE D κ (fun H => va_P D classes (wCo κ a σ) H))) (QWi Q (fun u H => va_P D classes (wCo κ a u) H) (cA a 8)) 0 0 (cA a 8) := by
  refine Met_of l (own := RX1) (by decide) rfl (Nat.le_of_ble_eq_true rfl) (fun p e s m below meth c Cc hPP ls hl => ?_)
  obtain ⟨hx, hb, hml, hown, hts, hr, hlk, hE⟩ := id Cc
  have hl : lv_has ls 1 [(0, .ref (a 0))] := hl
  have hPt := hPP
  have hS : va_S (cA a 8) s.heap s.heap [] := va_S.rf
  unfold pX1_draw at h
  refine lv_aload_n hx hb dX1_draw_0 rfl (lv_at hl 0 rfl) ?_
  refine lv_aload_n hx hb dX1_draw_1 rfl (lv_at hl 0 rfl) ?_
  refine gCo_10 Cc hPt (tw_121 hts) dX1_draw_2 ?_
  refine lv_ldc (own := RX1) (v := 1103515245) hx hb hown (tw_531 hts) dX1_draw_5 ?_
  refine lv_imul hx hb dX1_draw_7 ?_
  refine lv_sipush (v := 12345) hx hb dX1_draw_8 (by decide) ?_
  refine lv_iadd hx hb dX1_draw_11 ?_
  refine uCo_10 Cc hPt hIt hS ⟨0, by decide, rfl⟩ (tw_121 hts) dX1_draw_12 (fun H1 locs1 hB hS1 hk => ?_)
  have hPt := hB
  have hS := hS1
  refine lv_aload_n hx hb dX1_draw_15 rfl (lv_at hl 0 rfl) ?_
  refine gCo_10 Cc hPt (tw_121 hts) dX1_draw_16 ?_
  refine lv_bipush (v := 8) hx hb dX1_draw_19 (by decide) ?_
  refine lv_iushr (v := (((st σ 10 0 (((σ 10 0) * 1103515245) + 12345)) 10 0).toUInt32 >>> ((8 : Int32).toUInt32 &&& Int32.toUInt32 31)).toInt32) hx hb dX1_draw_21 rfl ?_
  exact W.iret (v := (((st σ 10 0 (((σ 10 0) * 1103515245) + 12345)) 10 0).toUInt32 >>> ((8 : Int32).toUInt32 &&& Int32.toUInt32 31)).toInt32) hx hb hr (fun t ht _ => QWi.mk (u := (st σ 10 0 (((σ 10 0) * 1103515245) + 12345))) h hPt hS ht) hS.2.2 dX1_draw_22 (hlocks := hlk)
theorem qX1_draw {R : Room} {s : State} {args : Array Value} {own : String} {idx : Nat} (hts : ∀ w ∈ gG, w.before args s = true) (hl : (Cond.methodLink own idx yX1_draw).before args s = true) (hR : rX1_draw.frames + 1 ≤ R.frames ∧ 8 + (1 + 11) + rX1_draw.locals ≤ R.locals) : CallW R s args own RX1 idx yX1_draw cX1_draw 1 (some .int) (wz yX1_draw cX1_draw 1 (some .int)) rX1_draw 0 0 0 := ⟨kw 0 hts mw_530 rfl rfl (tw_71 hts) hl (by decide +kernel) hR, tw_528 hts, tw_529 hts⟩
abbrev rX1_isGranted : Room := { frames := 1, cells := 0, slots := 0, locals := 22 }
def pX1_isGranted_36 (σ : Mx) (Q : Int32 → Prop) (y0 : Int32) : Prop := (y0 = 0 ∨ y0 = 1) ∧ (Q y0)
def pX1_isGranted_35 (σ : Mx) (Q : Int32 → Prop)  : Prop := pX1_isGranted_36 σ Q 0
def pX1_isGranted (σ : Mx) (x1 : Int32) (Q : Int32 → Prop) : Prop := pX1_placeOf σ x1 (fun r2 => (∀ v7 : Int32, v7 = (r2 + 1) → (((σ 8 0) ≤ v7 → (pX1_isGranted_35 σ Q )) ∧ (¬ (σ 8 0) ≤ v7 → (vp_in v7 8 ∧ (vp_in x1 8 ∧ ((¬ (σ 4 v7.toNatClampNeg) = (σ 3 x1.toNatClampNeg) → (pX1_isGranted_35 σ Q )) ∧ ((σ 4 v7.toNatClampNeg) = (σ 3 x1.toNatClampNeg) → (pX1_isGranted_36 σ Q 1)))))))))
set_option maxHeartbeats 4000000 in
set_option maxRecDepth 100000 in
theorem bX1_isGranted_36 {p : Program} {l : Launch} {e : Env} {s : State} {m : MethodId} {args : Array Value} {below : List Frame} {meth : Method} {c : Code} {D : va_G} {κ : Nat → ClassId} {a : Nat → Nat} {σ : Mx}  {Q : Int32 → Prop} (Cc : Cx D κ RX1 cX1_isGranted 3 (some .boolean) p s m args meth c)  (hPt : va_P D classes (wCo κ a σ) s.heap)  : ∀ (y0 : Int32) (ls : Array Slot) (hl : lv_has ls 3 []) (h : pX1_isGranted_36 σ Q y0), W p l e rX1_isGranted s m args below meth c s.heap [] 0 0 (MQ below (RQ Q) args s 0 0 (fun _ => False)) (F0 m 36 ls [.int y0]) := by
  obtain ⟨hx, hb, hml, hown, hts, hr, hlk, hE⟩ := id Cc
  intro y0 ls hl h
  unfold pX1_isGranted_36 at h
  exact W.zret (v := y0) (ty := .boolean) hx hb hr (bool_nar h.1) (fun t ht _ => RQ.mk h.2 ht) (fun _ h9 => by cases h9) dX1_isGranted_36 (hlocks := hlk)
set_option maxHeartbeats 4000000 in
set_option maxRecDepth 100000 in
theorem bX1_isGranted_35 {p : Program} {l : Launch} {e : Env} {s : State} {m : MethodId} {args : Array Value} {below : List Frame} {meth : Method} {c : Code} {D : va_G} {κ : Nat → ClassId} {a : Nat → Nat} {σ : Mx}  {Q : Int32 → Prop} (Cc : Cx D κ RX1 cX1_isGranted 3 (some .boolean) p s m args meth c)  (hPt : va_P D classes (wCo κ a σ) s.heap)  : ∀ (ls : Array Slot) (hl : lv_has ls 3 []) (h : pX1_isGranted_35 σ Q ), W p l e rX1_isGranted s m args below meth c s.heap [] 0 0 (MQ below (RQ Q) args s 0 0 (fun _ => False)) (F0 m 35 ls []) := by
  obtain ⟨hx, hb, hml, hown, hts, hr, hlk, hE⟩ := id Cc
  intro ls hl h
  unfold pX1_isGranted_35 at h
  refine lv_iconst (v := 0) hx hb dX1_isGranted_35 (by decide) ?_
  exact bX1_isGranted_36 Cc hPt 0  _ (lv_sub hl [] rfl) h
set_option maxHeartbeats 4000000 in
set_option maxRecDepth 100000 in
theorem mX1_isGranted (l : Launch) (D : va_G) (κ : Nat → ClassId) (a : Nat → Nat) {σ : Mx} {x1 : Int32} {Q : Int32 → Prop}  (h : pX1_isGranted σ x1 Q) : Met l yX1_isGranted (wz yX1_isGranted cX1_isGranted 3 (some .boolean)) rX1_isGranted (va_Pc [.ref (a 0), .int x1] (PE D κ (fun H => va_P D classes (wCo κ a σ) H))) (RQ Q) 0 0 (fun _ => False) := by
  refine Met_of l (own := RX1) (by decide) rfl (Nat.le_of_ble_eq_true rfl) (fun p e s m below meth c Cc hPP ls hl => ?_)
  obtain ⟨hx, hb, hml, hown, hts, hr, hlk, hE⟩ := id Cc
  have hl : lv_has ls 3 [(0, .ref (a 0)), (1, .int x1)] := hl
  have hPt := hPP
  unfold pX1_isGranted at h
  refine lv_aload_n hx hb dX1_isGranted_0 rfl (lv_at hl 0 rfl) ?_
  refine lv_iload_n hx hb dX1_isGranted_1 rfl (lv_at hl 1 rfl) ?_
  refine kR (kV Cc (mX1_placeOf l D κ a h) (qX1_placeOf hts (tw_279 hts) ⟨(Nat.le_of_ble_eq_true rfl), (Nat.le_of_ble_eq_true rfl)⟩) (va_recv hE.1 hPt (ci := 1) (q0 := 0) rfl rfl) (rest := []) hPt rfl hl.1 rfl (Nat.le_of_ble_eq_true rfl) dX1_isGranted_2 ⟨Nat.zero_le _, Nat.zero_le _⟩) (fun r2 h => ?_)
  refine lv_iconst (v := 1) hx hb dX1_isGranted_5 (by decide) ?_
  refine lv_iadd hx hb dX1_isGranted_6 ?_
  refine lv_topi (fun v7 e7 => ?_)
  have h := h v7 e7
  refine lv_istore_n (lv' := [(2, .int v7), (0, .ref (a 0)), (1, .int x1)]) hx hb dX1_isGranted_7 rfl hl (by decide) rfl (fun ls hl => ?_)
  refine lv_iload_n hx hb dX1_isGranted_8 rfl (lv_at hl 0 rfl) ?_
  refine lv_aload_n hx hb dX1_isGranted_9 rfl (lv_at hl 1 rfl) ?_
  refine gCo_8 Cc hPt (tw_116 hts) dX1_isGranted_10 ?_
  refine lv_icmp_ge (tgt := 35) hx hb dX1_isGranted_13 (by decide) (fun c13 => ?_) (fun c13 => ?_)
  · have h := h.1 c13
    exact bX1_isGranted_35 Cc hPt   _ (lv_sub hl [] rfl) h
  · have h := h.2 c13
    refine lv_aload_n hx hb dX1_isGranted_16 rfl (lv_at hl 1 rfl) ?_
    refine gCo_4 Cc hPt (tw_105 hts) dX1_isGranted_17 ?_
    refine lv_iload_n hx hb dX1_isGranted_20 rfl (lv_at hl 0 rfl) ?_
    refine lCo_4 Cc hPt h.1 dX1_isGranted_21 ?_
    have h := h.2
    refine lv_aload_n hx hb dX1_isGranted_22 rfl (lv_at hl 1 rfl) ?_
    refine gCo_3 Cc hPt (tw_103 hts) dX1_isGranted_23 ?_
    refine lv_iload_n hx hb dX1_isGranted_26 rfl (lv_at hl 2 rfl) ?_
    refine lCo_3 Cc hPt h.1 dX1_isGranted_27 ?_
    have h := h.2
    refine lv_icmp_ne (tgt := 35) hx hb dX1_isGranted_28 (by decide) (fun c28 => ?_) (fun c28 => ?_)
    · have h := h.1 c28
      exact bX1_isGranted_35 Cc hPt   _ (lv_sub hl [] rfl) h
    · have h := h.2 c28
      refine lv_iconst (v := 1) hx hb dX1_isGranted_31 (by decide) ?_
      refine lv_goto (tgt := 36) hx hb dX1_isGranted_32 (by decide) ?_
      exact bX1_isGranted_36 Cc hPt 1  _ (lv_sub hl [] rfl) h
theorem qX1_isGranted {R : Room} {s : State} {args : Array Value} {own : String} {idx : Nat} (hts : ∀ w ∈ gG, w.before args s = true) (hl : (Cond.methodLink own idx yX1_isGranted).before args s = true) (hR : rX1_isGranted.frames + 1 ≤ R.frames ∧ 8 + (3 + 11) + rX1_isGranted.locals ≤ R.locals) : CallW R s args own RX1 idx yX1_isGranted cX1_isGranted 3 (some .boolean) (wz yX1_isGranted cX1_isGranted 3 (some .boolean)) rX1_isGranted 0 0 1 := ⟨kw 1 hts mw_385 rfl rfl (tw_71 hts) hl (by decide +kernel) hR, tw_383 hts, tw_384 hts⟩
abbrev rX1_grantedPieces : Room := { frames := 2, cells := 0, slots := 0, locals := 44 }
def pX1_grantedPieces_26 (σ : Mx) (ih4 : Int32 → Int32 → Prop) (Q : Int32 → Prop) (x1 : Int32) (x2 : Int32) : Prop := ih4 x1 (x2 + 1)
def pX1_grantedPieces_4s (σ : Mx) (ih4 : Int32 → Int32 → Prop) (Q : Int32 → Prop) (x1 : Int32) (x2 : Int32) : Prop := ((σ 8 0) ≤ x2 → (Q x1)) ∧ (¬ (σ 8 0) ≤ x2 → (pX1_isGranted σ x2 (fun r14 => ((r14 = 0 → (pX1_grantedPieces_26 σ ih4 Q x1 x2)) ∧ (¬ r14 = 0 → (∀ v25 : Int32, v25 = (x1 ||| (1 <<< (x2 &&& 31))) → (pX1_grantedPieces_26 σ ih4 Q v25 x2)))))))
noncomputable def pX1_grantedPieces_4 (σ : Mx) (Q : Int32 → Prop) (n : Nat) : Int32 → Int32 → Prop := Nat.rec (motive := fun _ => Int32 → Int32 → Prop) (fun _ _ => False) (fun _ ih => pX1_grantedPieces_4s σ ih Q) n
def pX1_grantedPieces (σ : Mx)  (Q : Int32 → Prop) : Prop := ∃ n, pX1_grantedPieces_4 σ Q n 0 0
set_option maxHeartbeats 4000000 in
set_option maxRecDepth 100000 in
theorem bX1_grantedPieces_26 {p : Program} {l : Launch} {e : Env} {s : State} {m : MethodId} {args : Array Value} {below : List Frame} {meth : Method} {c : Code} {D : va_G} {κ : Nat → ClassId} {a : Nat → Nat} {σ : Mx} {ih4 : Int32 → Int32 → Prop} {Q : Int32 → Prop} (Cc : Cx D κ RX1 cX1_grantedPieces 3 (some .int) p s m args meth c)  (hPt : va_P D classes (wCo κ a σ) s.heap) (hih4 : ∀ (x1 : Int32) (x2 : Int32) (ls : Array Slot) (hl : lv_has ls 3 [(0, .ref (a 0)), (1, .int x1), (2, .int x2)]) (h : ih4 x1 x2), W p l e rX1_grantedPieces s m args below meth c s.heap [] 0 0 (MQ below (RQ Q) args s 0 0 (fun _ => False)) (F0 m 4 ls [])) : ∀ (x1 : Int32) (x2 : Int32) (ls : Array Slot) (hl : lv_has ls 3 [(0, .ref (a 0)), (1, .int x1), (2, .int x2)]) (h : pX1_grantedPieces_26 σ ih4 Q x1 x2), W p l e rX1_grantedPieces s m args below meth c s.heap [] 0 0 (MQ below (RQ Q) args s 0 0 (fun _ => False)) (F0 m 26 ls []) := by
  obtain ⟨hx, hb, hml, hown, hts, hr, hlk, hE⟩ := id Cc
  intro x1 x2 ls hl h
  unfold pX1_grantedPieces_26 at h
  refine lv_iinc (v := (x2 + 1)) (lv' := [(2, .int (x2 + 1)), (0, .ref (a 0)), (1, .int x1)]) hx hb dX1_grantedPieces_26 hl (k := 2) rfl rfl (by decide) rfl (fun ls hl => ?_)
  refine lv_goto (tgt := 4) hx hb dX1_grantedPieces_29 (by decide) ?_
  exact hih4 x1 (x2 + 1)  _ (lv_sub hl [1, 2, 0] rfl) h
set_option maxHeartbeats 4000000 in
set_option maxRecDepth 100000 in
theorem bX1_grantedPieces_4 {p : Program} {l : Launch} {e : Env} {s : State} {m : MethodId} {args : Array Value} {below : List Frame} {meth : Method} {c : Code} {D : va_G} {κ : Nat → ClassId} {a : Nat → Nat} {σ : Mx}  {Q : Int32 → Prop} (Cc : Cx D κ RX1 cX1_grantedPieces 3 (some .int) p s m args meth c)  (hPt : va_P D classes (wCo κ a σ) s.heap)  (n : Nat) : ∀ (x1 : Int32) (x2 : Int32) (ls : Array Slot) (hl : lv_has ls 3 [(0, .ref (a 0)), (1, .int x1), (2, .int x2)]) (h : pX1_grantedPieces_4 σ Q n x1 x2), W p l e rX1_grantedPieces s m args below meth c s.heap [] 0 0 (MQ below (RQ Q) args s 0 0 (fun _ => False)) (F0 m 4 ls []) := by
  obtain ⟨hx, hb, hml, hown, hts, hr, hlk, hE⟩ := id Cc
  induction n with
  | zero =>
    intro x1 x2 ls hl h
    exact absurd h (fun z => z)
  | succ n hih4 =>
    intro x1 x2 ls hl h
    have h : pX1_grantedPieces_4s σ (pX1_grantedPieces_4 σ Q n) Q x1 x2 := h
    unfold pX1_grantedPieces_4s at h
    refine lv_iload_n hx hb dX1_grantedPieces_4 rfl (lv_at hl 2 rfl) ?_
    refine lv_aload_n hx hb dX1_grantedPieces_5 rfl (lv_at hl 0 rfl) ?_
    refine gCo_8 Cc hPt (tw_116 hts) dX1_grantedPieces_6 ?_
    refine lv_icmp_ge (tgt := 32) hx hb dX1_grantedPieces_9 (by decide) (fun c9 => ?_) (fun c9 => ?_)
    · have h := h.1 c9
      refine lv_iload_n hx hb dX1_grantedPieces_32 rfl (lv_at hl 1 rfl) ?_
      exact W.iret (v := x1) hx hb hr (fun t ht _ => RQ.mk h ht) (fun _ h9 => by cases h9) dX1_grantedPieces_33 (hlocks := hlk)
    · have h := h.2 c9
      refine lv_aload_n hx hb dX1_grantedPieces_12 rfl (lv_at hl 0 rfl) ?_
      refine lv_iload_n hx hb dX1_grantedPieces_13 rfl (lv_at hl 2 rfl) ?_
      refine kR (kV Cc (mX1_isGranted l D κ a h) (qX1_isGranted hts (tw_382 hts) ⟨(Nat.le_of_ble_eq_true rfl), (Nat.le_of_ble_eq_true rfl)⟩) (va_recv hE.1 hPt (ci := 1) (q0 := 0) rfl rfl) (rest := []) hPt rfl hl.1 rfl (Nat.le_of_ble_eq_true rfl) dX1_grantedPieces_14 ⟨Nat.zero_le _, Nat.zero_le _⟩) (fun r14 h => ?_)
      refine lv_if_eq (tgt := 26) hx hb dX1_grantedPieces_17 (by decide) (fun c17 => ?_) (fun c17 => ?_)
      · have h := h.1 c17
        exact bX1_grantedPieces_26 Cc hPt hih4 x1 x2  _ (lv_sub hl [0, 1, 2] rfl) h
      · have h := h.2 c17
        refine lv_iload_n hx hb dX1_grantedPieces_20 rfl (lv_at hl 1 rfl) ?_
        refine lv_iconst (v := 1) hx hb dX1_grantedPieces_21 (by decide) ?_
        refine lv_iload_n hx hb dX1_grantedPieces_22 rfl (lv_at hl 2 rfl) ?_
        refine lv_ishl hx hb dX1_grantedPieces_23 ?_
        refine lv_ior hx hb dX1_grantedPieces_24 ?_
        refine lv_topi (fun v25 e25 => ?_)
        have h := h v25 e25
        refine lv_istore_n (lv' := [(1, .int v25), (0, .ref (a 0)), (2, .int x2)]) hx hb dX1_grantedPieces_25 rfl hl (by decide) rfl (fun ls hl => ?_)
        exact bX1_grantedPieces_26 Cc hPt hih4 v25 x2  _ (lv_sub hl [1, 0, 2] rfl) h
set_option maxHeartbeats 4000000 in
set_option maxRecDepth 100000 in
theorem mX1_grantedPieces (l : Launch) (D : va_G) (κ : Nat → ClassId) (a : Nat → Nat) {σ : Mx}  {Q : Int32 → Prop}  (h : pX1_grantedPieces σ  Q) : Met l yX1_grantedPieces (wz yX1_grantedPieces cX1_grantedPieces 3 (some .int)) rX1_grantedPieces (va_Pc [.ref (a 0)] (PE D κ (fun H => va_P D classes (wCo κ a σ) H))) (RQ Q) 0 0 (fun _ => False) := by
  refine Met_of l (own := RX1) (by decide) rfl (Nat.le_of_ble_eq_true rfl) (fun p e s m below meth c Cc hPP ls hl => ?_)
  obtain ⟨hx, hb, hml, hown, hts, hr, hlk, hE⟩ := id Cc
  have hl : lv_has ls 3 [(0, .ref (a 0))] := hl
  have hPt := hPP
  unfold pX1_grantedPieces at h
  refine lv_iconst (v := 0) hx hb dX1_grantedPieces_0 (by decide) ?_
  refine lv_istore_n (lv' := [(1, .int 0), (0, .ref (a 0))]) hx hb dX1_grantedPieces_1 rfl hl (by decide) rfl (fun ls hl => ?_)
  refine lv_iconst (v := 0) hx hb dX1_grantedPieces_2 (by decide) ?_
  refine lv_istore_n (lv' := [(2, .int 0), (1, .int 0), (0, .ref (a 0))]) hx hb dX1_grantedPieces_3 rfl hl (by decide) rfl (fun ls hl => ?_)
  obtain ⟨n, h⟩ := h
  exact bX1_grantedPieces_4 Cc hPt n 0 0  _ (lv_sub hl [2, 1, 0] rfl) h
theorem qX1_grantedPieces {R : Room} {s : State} {args : Array Value} {own : String} {idx : Nat} (hts : ∀ w ∈ gG, w.before args s = true) (hl : (Cond.methodLink own idx yX1_grantedPieces).before args s = true) (hR : rX1_grantedPieces.frames + 1 ≤ R.frames ∧ 8 + (3 + 11) + rX1_grantedPieces.locals ≤ R.locals) : CallW R s args own RX1 idx yX1_grantedPieces cX1_grantedPieces 3 (some .int) (wz yX1_grantedPieces cX1_grantedPieces 3 (some .int)) rX1_grantedPieces 0 0 0 := ⟨kw 0 hts mw_381 rfl rfl (tw_71 hts) hl (by decide +kernel) hR, tw_379 hts, tw_380 hts⟩
abbrev rX1_closedPlaces : Room := { frames := 3, cells := 0, slots := 0, locals := 68 }
def pX1_closedPlaces_28 (σ : Mx) (ih4 : Int32 → Int32 → Prop) (Q : Int32 → Prop) (x1 : Int32) (x2 : Int32) : Prop := ih4 x1 (x2 + 1)
def pX1_closedPlaces_4s (σ : Mx) (ih4 : Int32 → Int32 → Prop) (Q : Int32 → Prop) (x1 : Int32) (x2 : Int32) : Prop := ((σ 8 0) ≤ (x2 + 1) → (Q x1)) ∧ (¬ (σ 8 0) ≤ (x2 + 1) → (pX1_gapBehind σ x2 (fun r16 => ((¬ r16 = 0 → (pX1_closedPlaces_28 σ ih4 Q x1 x2)) ∧ (r16 = 0 → (∀ v27 : Int32, v27 = (x1 ||| (1 <<< (x2 &&& 31))) → (pX1_closedPlaces_28 σ ih4 Q v27 x2)))))))
noncomputable def pX1_closedPlaces_4 (σ : Mx) (Q : Int32 → Prop) (n : Nat) : Int32 → Int32 → Prop := Nat.rec (motive := fun _ => Int32 → Int32 → Prop) (fun _ _ => False) (fun _ ih => pX1_closedPlaces_4s σ ih Q) n
def pX1_closedPlaces (σ : Mx)  (Q : Int32 → Prop) : Prop := ∃ n, pX1_closedPlaces_4 σ Q n 0 0
set_option maxHeartbeats 4000000 in
set_option maxRecDepth 100000 in
theorem bX1_closedPlaces_28 {p : Program} {l : Launch} {e : Env} {s : State} {m : MethodId} {args : Array Value} {below : List Frame} {meth : Method} {c : Code} {D : va_G} {κ : Nat → ClassId} {a : Nat → Nat} {σ : Mx} {ih4 : Int32 → Int32 → Prop} {Q : Int32 → Prop} (Cc : Cx D κ RX1 cX1_closedPlaces 3 (some .int) p s m args meth c)  (hPt : va_P D classes (wCo κ a σ) s.heap) (hih4 : ∀ (x1 : Int32) (x2 : Int32) (ls : Array Slot) (hl : lv_has ls 3 [(0, .ref (a 0)), (1, .int x1), (2, .int x2)]) (h : ih4 x1 x2), W p l e rX1_closedPlaces s m args below meth c s.heap [] 0 0 (MQ below (RQ Q) args s 0 0 (fun _ => False)) (F0 m 4 ls [])) : ∀ (x1 : Int32) (x2 : Int32) (ls : Array Slot) (hl : lv_has ls 3 [(0, .ref (a 0)), (1, .int x1), (2, .int x2)]) (h : pX1_closedPlaces_28 σ ih4 Q x1 x2), W p l e rX1_closedPlaces s m args below meth c s.heap [] 0 0 (MQ below (RQ Q) args s 0 0 (fun _ => False)) (F0 m 28 ls []) := by
  obtain ⟨hx, hb, hml, hown, hts, hr, hlk, hE⟩ := id Cc
  intro x1 x2 ls hl h
  unfold pX1_closedPlaces_28 at h
  refine lv_iinc (v := (x2 + 1)) (lv' := [(2, .int (x2 + 1)), (0, .ref (a 0)), (1, .int x1)]) hx hb dX1_closedPlaces_28 hl (k := 2) rfl rfl (by decide) rfl (fun ls hl => ?_)
  refine lv_goto (tgt := 4) hx hb dX1_closedPlaces_31 (by decide) ?_
  exact hih4 x1 (x2 + 1)  _ (lv_sub hl [1, 2, 0] rfl) h
set_option maxHeartbeats 4000000 in
set_option maxRecDepth 100000 in
theorem bX1_closedPlaces_4 {p : Program} {l : Launch} {e : Env} {s : State} {m : MethodId} {args : Array Value} {below : List Frame} {meth : Method} {c : Code} {D : va_G} {κ : Nat → ClassId} {a : Nat → Nat} {σ : Mx}  {Q : Int32 → Prop} (Cc : Cx D κ RX1 cX1_closedPlaces 3 (some .int) p s m args meth c)  (hPt : va_P D classes (wCo κ a σ) s.heap)  (n : Nat) : ∀ (x1 : Int32) (x2 : Int32) (ls : Array Slot) (hl : lv_has ls 3 [(0, .ref (a 0)), (1, .int x1), (2, .int x2)]) (h : pX1_closedPlaces_4 σ Q n x1 x2), W p l e rX1_closedPlaces s m args below meth c s.heap [] 0 0 (MQ below (RQ Q) args s 0 0 (fun _ => False)) (F0 m 4 ls []) := by
  obtain ⟨hx, hb, hml, hown, hts, hr, hlk, hE⟩ := id Cc
  induction n with
  | zero =>
    intro x1 x2 ls hl h
    exact absurd h (fun z => z)
  | succ n hih4 =>
    intro x1 x2 ls hl h
    have h : pX1_closedPlaces_4s σ (pX1_closedPlaces_4 σ Q n) Q x1 x2 := h
    unfold pX1_closedPlaces_4s at h
    refine lv_iload_n hx hb dX1_closedPlaces_4 rfl (lv_at hl 2 rfl) ?_
    refine lv_iconst (v := 1) hx hb dX1_closedPlaces_5 (by decide) ?_
    refine lv_iadd hx hb dX1_closedPlaces_6 ?_
    refine lv_aload_n hx hb dX1_closedPlaces_7 rfl (lv_at hl 0 rfl) ?_
    refine gCo_8 Cc hPt (tw_116 hts) dX1_closedPlaces_8 ?_
    refine lv_icmp_ge (tgt := 34) hx hb dX1_closedPlaces_11 (by decide) (fun c11 => ?_) (fun c11 => ?_)
    · have h := h.1 c11
      refine lv_iload_n hx hb dX1_closedPlaces_34 rfl (lv_at hl 1 rfl) ?_
      exact W.iret (v := x1) hx hb hr (fun t ht _ => RQ.mk h ht) (fun _ h9 => by cases h9) dX1_closedPlaces_35 (hlocks := hlk)
    · have h := h.2 c11
      refine lv_aload_n hx hb dX1_closedPlaces_14 rfl (lv_at hl 0 rfl) ?_
      refine lv_iload_n hx hb dX1_closedPlaces_15 rfl (lv_at hl 2 rfl) ?_
      refine kR (kV Cc (mX1_gapBehind l D κ a h) (qX1_gapBehind hts (tw_346 hts) ⟨(Nat.le_of_ble_eq_true rfl), (Nat.le_of_ble_eq_true rfl)⟩) (va_recv hE.1 hPt (ci := 1) (q0 := 0) rfl rfl) (rest := []) hPt rfl hl.1 rfl (Nat.le_of_ble_eq_true rfl) dX1_closedPlaces_16 ⟨Nat.zero_le _, Nat.zero_le _⟩) (fun r16 h => ?_)
      refine lv_if_ne (tgt := 28) hx hb dX1_closedPlaces_19 (by decide) (fun c19 => ?_) (fun c19 => ?_)
      · have h := h.1 c19
        exact bX1_closedPlaces_28 Cc hPt hih4 x1 x2  _ (lv_sub hl [0, 1, 2] rfl) h
      · have h := h.2 c19
        refine lv_iload_n hx hb dX1_closedPlaces_22 rfl (lv_at hl 1 rfl) ?_
        refine lv_iconst (v := 1) hx hb dX1_closedPlaces_23 (by decide) ?_
        refine lv_iload_n hx hb dX1_closedPlaces_24 rfl (lv_at hl 2 rfl) ?_
        refine lv_ishl hx hb dX1_closedPlaces_25 ?_
        refine lv_ior hx hb dX1_closedPlaces_26 ?_
        refine lv_topi (fun v27 e27 => ?_)
        have h := h v27 e27
        refine lv_istore_n (lv' := [(1, .int v27), (0, .ref (a 0)), (2, .int x2)]) hx hb dX1_closedPlaces_27 rfl hl (by decide) rfl (fun ls hl => ?_)
        exact bX1_closedPlaces_28 Cc hPt hih4 v27 x2  _ (lv_sub hl [1, 0, 2] rfl) h
set_option maxHeartbeats 4000000 in
set_option maxRecDepth 100000 in
theorem mX1_closedPlaces (l : Launch) (D : va_G) (κ : Nat → ClassId) (a : Nat → Nat) {σ : Mx}  {Q : Int32 → Prop}  (h : pX1_closedPlaces σ  Q) : Met l yX1_closedPlaces (wz yX1_closedPlaces cX1_closedPlaces 3 (some .int)) rX1_closedPlaces (va_Pc [.ref (a 0)] (PE D κ (fun H => va_P D classes (wCo κ a σ) H))) (RQ Q) 0 0 (fun _ => False) := by
  refine Met_of l (own := RX1) (by decide) rfl (Nat.le_of_ble_eq_true rfl) (fun p e s m below meth c Cc hPP ls hl => ?_)
  obtain ⟨hx, hb, hml, hown, hts, hr, hlk, hE⟩ := id Cc
  have hl : lv_has ls 3 [(0, .ref (a 0))] := hl
  have hPt := hPP
  unfold pX1_closedPlaces at h
  refine lv_iconst (v := 0) hx hb dX1_closedPlaces_0 (by decide) ?_
  refine lv_istore_n (lv' := [(1, .int 0), (0, .ref (a 0))]) hx hb dX1_closedPlaces_1 rfl hl (by decide) rfl (fun ls hl => ?_)
  refine lv_iconst (v := 0) hx hb dX1_closedPlaces_2 (by decide) ?_
  refine lv_istore_n (lv' := [(2, .int 0), (1, .int 0), (0, .ref (a 0))]) hx hb dX1_closedPlaces_3 rfl hl (by decide) rfl (fun ls hl => ?_)
  obtain ⟨n, h⟩ := h
  exact bX1_closedPlaces_4 Cc hPt n 0 0  _ (lv_sub hl [2, 1, 0] rfl) h
theorem qX1_closedPlaces {R : Room} {s : State} {args : Array Value} {own : String} {idx : Nat} (hts : ∀ w ∈ gG, w.before args s = true) (hl : (Cond.methodLink own idx yX1_closedPlaces).before args s = true) (hR : rX1_closedPlaces.frames + 1 ≤ R.frames ∧ 8 + (3 + 11) + rX1_closedPlaces.locals ≤ R.locals) : CallW R s args own RX1 idx yX1_closedPlaces cX1_closedPlaces 3 (some .int) (wz yX1_closedPlaces cX1_closedPlaces 3 (some .int)) rX1_closedPlaces 0 0 0 := ⟨kw 0 hts mw_377 rfl rfl (tw_71 hts) hl (by decide +kernel) hR, tw_375 hts, tw_376 hts⟩
abbrev rX1_greatestGap : Room := { frames := 3, cells := 0, slots := 0, locals := 68 }
def pX1_greatestGap_4s (σ : Mx) (ih4 : Int32 → Int32 → Prop) (Q : Int32 → Prop) (x1 : Int32) (x2 : Int32) : Prop := ((σ 8 0) ≤ (x2 + 1) → (Q x1)) ∧ (¬ (σ 8 0) ≤ (x2 + 1) → (pX1_gapBehind σ x2 (fun r17 => (∀ v20 : Int32, v20 = (if x1 < r17 then r17 else x1) → (ih4 v20 (x2 + 1))))))
noncomputable def pX1_greatestGap_4 (σ : Mx) (Q : Int32 → Prop) (n : Nat) : Int32 → Int32 → Prop := Nat.rec (motive := fun _ => Int32 → Int32 → Prop) (fun _ _ => False) (fun _ ih => pX1_greatestGap_4s σ ih Q) n
def pX1_greatestGap (σ : Mx)  (Q : Int32 → Prop) : Prop := ∃ n, pX1_greatestGap_4 σ Q n 0 0
set_option maxHeartbeats 4000000 in
set_option maxRecDepth 100000 in
theorem bX1_greatestGap_4 {p : Program} {l : Launch} {e : Env} {s : State} {m : MethodId} {args : Array Value} {below : List Frame} {meth : Method} {c : Code} {D : va_G} {κ : Nat → ClassId} {a : Nat → Nat} {σ : Mx}  {Q : Int32 → Prop} (Cc : Cx D κ RX1 cX1_greatestGap 3 (some .int) p s m args meth c)  (hPt : va_P D classes (wCo κ a σ) s.heap)  (n : Nat) : ∀ (x1 : Int32) (x2 : Int32) (ls : Array Slot) (hl : lv_has ls 3 [(0, .ref (a 0)), (1, .int x1), (2, .int x2)]) (h : pX1_greatestGap_4 σ Q n x1 x2), W p l e rX1_greatestGap s m args below meth c s.heap [] 0 0 (MQ below (RQ Q) args s 0 0 (fun _ => False)) (F0 m 4 ls []) := by
  obtain ⟨hx, hb, hml, hown, hts, hr, hlk, hE⟩ := id Cc
  induction n with
  | zero =>
    intro x1 x2 ls hl h
    exact absurd h (fun z => z)
  | succ n hih4 =>
    intro x1 x2 ls hl h
    have h : pX1_greatestGap_4s σ (pX1_greatestGap_4 σ Q n) Q x1 x2 := h
    unfold pX1_greatestGap_4s at h
    refine lv_iload_n hx hb dX1_greatestGap_4 rfl (lv_at hl 2 rfl) ?_
    refine lv_iconst (v := 1) hx hb dX1_greatestGap_5 (by decide) ?_
    refine lv_iadd hx hb dX1_greatestGap_6 ?_
    refine lv_aload_n hx hb dX1_greatestGap_7 rfl (lv_at hl 0 rfl) ?_
    refine gCo_8 Cc hPt (tw_116 hts) dX1_greatestGap_8 ?_
    refine lv_icmp_ge (tgt := 30) hx hb dX1_greatestGap_11 (by decide) (fun c11 => ?_) (fun c11 => ?_)
    · have h := h.1 c11
      refine lv_iload_n hx hb dX1_greatestGap_30 rfl (lv_at hl 1 rfl) ?_
      exact W.iret (v := x1) hx hb hr (fun t ht _ => RQ.mk h ht) (fun _ h9 => by cases h9) dX1_greatestGap_31 (hlocks := hlk)
    · have h := h.2 c11
      refine lv_iload_n hx hb dX1_greatestGap_14 rfl (lv_at hl 1 rfl) ?_
      refine lv_aload_n hx hb dX1_greatestGap_15 rfl (lv_at hl 0 rfl) ?_
      refine lv_iload_n hx hb dX1_greatestGap_16 rfl (lv_at hl 2 rfl) ?_
      refine kR (kV Cc (mX1_gapBehind l D κ a h) (qX1_gapBehind hts (tw_346 hts) ⟨(Nat.le_of_ble_eq_true rfl), (Nat.le_of_ble_eq_true rfl)⟩) (va_recv hE.1 hPt (ci := 1) (q0 := 0) rfl rfl) (rest := [.int x1]) hPt rfl hl.1 rfl (Nat.le_of_ble_eq_true rfl) dX1_greatestGap_17 ⟨Nat.zero_le _, Nat.zero_le _⟩) (fun r17 h => ?_)
      refine va_mmax hx hb (hml.trans hl.1.symm) hown (tw_390 hts) (tw_391 hts) (tw_76 hts) (tw_392 hts) (Nat.le_of_ble_eq_true rfl) (Nat.le_of_ble_eq_true rfl) (Nat.zero_le _) (Nat.zero_le _) dX1_greatestGap_20 ?_
      refine lv_topi (fun v20 e20 => ?_)
      have h := h v20 e20
      refine lv_istore_n (lv' := [(1, .int v20), (0, .ref (a 0)), (2, .int x2)]) hx hb dX1_greatestGap_23 rfl hl (by decide) rfl (fun ls hl => ?_)
      refine lv_iinc (v := (x2 + 1)) (lv' := [(2, .int (x2 + 1)), (1, .int v20), (0, .ref (a 0))]) hx hb dX1_greatestGap_24 hl (k := 2) rfl rfl (by decide) rfl (fun ls hl => ?_)
      refine lv_goto (tgt := 4) hx hb dX1_greatestGap_27 (by decide) ?_
      exact hih4 v20 (x2 + 1)  _ (lv_sub hl [2, 1, 0] rfl) h
set_option maxHeartbeats 4000000 in
set_option maxRecDepth 100000 in
theorem mX1_greatestGap (l : Launch) (D : va_G) (κ : Nat → ClassId) (a : Nat → Nat) {σ : Mx}  {Q : Int32 → Prop}  (h : pX1_greatestGap σ  Q) : Met l yX1_greatestGap (wz yX1_greatestGap cX1_greatestGap 3 (some .int)) rX1_greatestGap (va_Pc [.ref (a 0)] (PE D κ (fun H => va_P D classes (wCo κ a σ) H))) (RQ Q) 0 0 (fun _ => False) := by
  refine Met_of l (own := RX1) (by decide) rfl (Nat.le_of_ble_eq_true rfl) (fun p e s m below meth c Cc hPP ls hl => ?_)
  obtain ⟨hx, hb, hml, hown, hts, hr, hlk, hE⟩ := id Cc
  have hl : lv_has ls 3 [(0, .ref (a 0))] := hl
  have hPt := hPP
  unfold pX1_greatestGap at h
  refine lv_iconst (v := 0) hx hb dX1_greatestGap_0 (by decide) ?_
  refine lv_istore_n (lv' := [(1, .int 0), (0, .ref (a 0))]) hx hb dX1_greatestGap_1 rfl hl (by decide) rfl (fun ls hl => ?_)
  refine lv_iconst (v := 0) hx hb dX1_greatestGap_2 (by decide) ?_
  refine lv_istore_n (lv' := [(2, .int 0), (1, .int 0), (0, .ref (a 0))]) hx hb dX1_greatestGap_3 rfl hl (by decide) rfl (fun ls hl => ?_)
  obtain ⟨n, h⟩ := h
  exact bX1_greatestGap_4 Cc hPt n 0 0  _ (lv_sub hl [2, 1, 0] rfl) h
theorem qX1_greatestGap {R : Room} {s : State} {args : Array Value} {own : String} {idx : Nat} (hts : ∀ w ∈ gG, w.before args s = true) (hl : (Cond.methodLink own idx yX1_greatestGap).before args s = true) (hR : rX1_greatestGap.frames + 1 ≤ R.frames ∧ 8 + (3 + 11) + rX1_greatestGap.locals ≤ R.locals) : CallW R s args own RX1 idx yX1_greatestGap cX1_greatestGap 3 (some .int) (wz yX1_greatestGap cX1_greatestGap 3 (some .int)) rX1_greatestGap 0 0 0 := ⟨kw 0 hts mw_389 rfl rfl (tw_71 hts) hl (by decide +kernel) hR, tw_387 hts, tw_388 hts⟩
abbrev rX1_filledSpots : Room := { frames := 0, cells := 0, slots := 0, locals := 0 }
def pX1_filledSpots_22 (σ : Mx) (ih4 : Int32 → Int32 → Prop) (Q : Int32 → Prop) (x1 : Int32) (x2 : Int32) : Prop := ih4 x1 (x2 + 1)
def pX1_filledSpots_4s (σ : Mx) (ih4 : Int32 → Int32 → Prop) (Q : Int32 → Prop) (x1 : Int32) (x2 : Int32) : Prop := (10 ≤ x2 → (Q x1)) ∧ (¬ 10 ≤ x2 → (vp_in x2 10 ∧ (((σ 6 x2.toNatClampNeg) < 0 → (pX1_filledSpots_22 σ ih4 Q x1 x2)) ∧ (¬ (σ 6 x2.toNatClampNeg) < 0 → (pX1_filledSpots_22 σ ih4 Q (x1 + 1) x2)))))
noncomputable def pX1_filledSpots_4 (σ : Mx) (Q : Int32 → Prop) (n : Nat) : Int32 → Int32 → Prop := Nat.rec (motive := fun _ => Int32 → Int32 → Prop) (fun _ _ => False) (fun _ ih => pX1_filledSpots_4s σ ih Q) n
def pX1_filledSpots (σ : Mx)  (Q : Int32 → Prop) : Prop := ∃ n, pX1_filledSpots_4 σ Q n 0 0
set_option maxHeartbeats 4000000 in
set_option maxRecDepth 100000 in
theorem bX1_filledSpots_22 {p : Program} {l : Launch} {e : Env} {s : State} {m : MethodId} {args : Array Value} {below : List Frame} {meth : Method} {c : Code} {D : va_G} {κ : Nat → ClassId} {a : Nat → Nat} {σ : Mx} {ih4 : Int32 → Int32 → Prop} {Q : Int32 → Prop} (Cc : Cx D κ RX1 cX1_filledSpots 3 (some .int) p s m args meth c)  (hPt : va_P D classes (wCo κ a σ) s.heap) (hih4 : ∀ (x1 : Int32) (x2 : Int32) (ls : Array Slot) (hl : lv_has ls 3 [(0, .ref (a 0)), (1, .int x1), (2, .int x2)]) (h : ih4 x1 x2), W p l e rX1_filledSpots s m args below meth c s.heap [] 0 0 (MQ below (RQ Q) args s 0 0 (fun _ => False)) (F0 m 4 ls [])) : ∀ (x1 : Int32) (x2 : Int32) (ls : Array Slot) (hl : lv_has ls 3 [(0, .ref (a 0)), (1, .int x1), (2, .int x2)]) (h : pX1_filledSpots_22 σ ih4 Q x1 x2), W p l e rX1_filledSpots s m args below meth c s.heap [] 0 0 (MQ below (RQ Q) args s 0 0 (fun _ => False)) (F0 m 22 ls []) := by
  obtain ⟨hx, hb, hml, hown, hts, hr, hlk, hE⟩ := id Cc
  intro x1 x2 ls hl h
  unfold pX1_filledSpots_22 at h
  refine lv_iinc (v := (x2 + 1)) (lv' := [(2, .int (x2 + 1)), (0, .ref (a 0)), (1, .int x1)]) hx hb dX1_filledSpots_22 hl (k := 2) rfl rfl (by decide) rfl (fun ls hl => ?_)
  refine lv_goto (tgt := 4) hx hb dX1_filledSpots_25 (by decide) ?_
  exact hih4 x1 (x2 + 1)  _ (lv_sub hl [1, 2, 0] rfl) h
set_option maxHeartbeats 4000000 in
set_option maxRecDepth 100000 in
theorem bX1_filledSpots_4 {p : Program} {l : Launch} {e : Env} {s : State} {m : MethodId} {args : Array Value} {below : List Frame} {meth : Method} {c : Code} {D : va_G} {κ : Nat → ClassId} {a : Nat → Nat} {σ : Mx}  {Q : Int32 → Prop} (Cc : Cx D κ RX1 cX1_filledSpots 3 (some .int) p s m args meth c)  (hPt : va_P D classes (wCo κ a σ) s.heap)  (n : Nat) : ∀ (x1 : Int32) (x2 : Int32) (ls : Array Slot) (hl : lv_has ls 3 [(0, .ref (a 0)), (1, .int x1), (2, .int x2)]) (h : pX1_filledSpots_4 σ Q n x1 x2), W p l e rX1_filledSpots s m args below meth c s.heap [] 0 0 (MQ below (RQ Q) args s 0 0 (fun _ => False)) (F0 m 4 ls []) := by
  obtain ⟨hx, hb, hml, hown, hts, hr, hlk, hE⟩ := id Cc
  induction n with
  | zero =>
    intro x1 x2 ls hl h
    exact absurd h (fun z => z)
  | succ n hih4 =>
    intro x1 x2 ls hl h
    have h : pX1_filledSpots_4s σ (pX1_filledSpots_4 σ Q n) Q x1 x2 := h
    unfold pX1_filledSpots_4s at h
    refine lv_iload_n hx hb dX1_filledSpots_4 rfl (lv_at hl 2 rfl) ?_
    refine lv_bipush (v := 10) hx hb dX1_filledSpots_5 (by decide) ?_
    refine lv_icmp_ge (tgt := 28) hx hb dX1_filledSpots_7 (by decide) (fun c7 => ?_) (fun c7 => ?_)
    · have h := h.1 c7
      refine lv_iload_n hx hb dX1_filledSpots_28 rfl (lv_at hl 1 rfl) ?_
      exact W.iret (v := x1) hx hb hr (fun t ht _ => RQ.mk h ht) (fun _ h9 => by cases h9) dX1_filledSpots_29 (hlocks := hlk)
    · have h := h.2 c7
      refine lv_aload_n hx hb dX1_filledSpots_10 rfl (lv_at hl 0 rfl) ?_
      refine gCo_6 Cc hPt (tw_110 hts) dX1_filledSpots_11 ?_
      refine lv_iload_n hx hb dX1_filledSpots_14 rfl (lv_at hl 2 rfl) ?_
      refine lCo_6 Cc hPt h.1 dX1_filledSpots_15 ?_
      have h := h.2
      refine lv_if_lt (tgt := 22) hx hb dX1_filledSpots_16 (by decide) (fun c16 => ?_) (fun c16 => ?_)
      · have h := h.1 c16
        exact bX1_filledSpots_22 Cc hPt hih4 x1 x2  _ (lv_sub hl [0, 1, 2] rfl) h
      · have h := h.2 c16
        refine lv_iinc (v := (x1 + 1)) (lv' := [(1, .int (x1 + 1)), (0, .ref (a 0)), (2, .int x2)]) hx hb dX1_filledSpots_19 hl (k := 1) rfl rfl (by decide) rfl (fun ls hl => ?_)
        exact bX1_filledSpots_22 Cc hPt hih4 (x1 + 1) x2  _ (lv_sub hl [1, 0, 2] rfl) h
set_option maxHeartbeats 4000000 in
set_option maxRecDepth 100000 in
theorem mX1_filledSpots (l : Launch) (D : va_G) (κ : Nat → ClassId) (a : Nat → Nat) {σ : Mx}  {Q : Int32 → Prop}  (h : pX1_filledSpots σ  Q) : Met l yX1_filledSpots (wz yX1_filledSpots cX1_filledSpots 3 (some .int)) rX1_filledSpots (va_Pc [.ref (a 0)] (PE D κ (fun H => va_P D classes (wCo κ a σ) H))) (RQ Q) 0 0 (fun _ => False) := by
  refine Met_of l (own := RX1) (by decide) rfl (Nat.le_of_ble_eq_true rfl) (fun p e s m below meth c Cc hPP ls hl => ?_)
  obtain ⟨hx, hb, hml, hown, hts, hr, hlk, hE⟩ := id Cc
  have hl : lv_has ls 3 [(0, .ref (a 0))] := hl
  have hPt := hPP
  unfold pX1_filledSpots at h
  refine lv_iconst (v := 0) hx hb dX1_filledSpots_0 (by decide) ?_
  refine lv_istore_n (lv' := [(1, .int 0), (0, .ref (a 0))]) hx hb dX1_filledSpots_1 rfl hl (by decide) rfl (fun ls hl => ?_)
  refine lv_iconst (v := 0) hx hb dX1_filledSpots_2 (by decide) ?_
  refine lv_istore_n (lv' := [(2, .int 0), (1, .int 0), (0, .ref (a 0))]) hx hb dX1_filledSpots_3 rfl hl (by decide) rfl (fun ls hl => ?_)
  obtain ⟨n, h⟩ := h
  exact bX1_filledSpots_4 Cc hPt n 0 0  _ (lv_sub hl [2, 1, 0] rfl) h
theorem qX1_filledSpots {R : Room} {s : State} {args : Array Value} {own : String} {idx : Nat} (hts : ∀ w ∈ gG, w.before args s = true) (hl : (Cond.methodLink own idx yX1_filledSpots).before args s = true) (hR : rX1_filledSpots.frames + 1 ≤ R.frames ∧ 8 + (3 + 11) + rX1_filledSpots.locals ≤ R.locals) : CallW R s args own RX1 idx yX1_filledSpots cX1_filledSpots 3 (some .int) (wz yX1_filledSpots cX1_filledSpots 3 (some .int)) rX1_filledSpots 0 0 0 := ⟨kw 0 hts mw_737 rfl rfl (tw_71 hts) hl (by decide +kernel) hR, tw_735 hts, tw_736 hts⟩
abbrev rX2_begin : Room := { frames := 0, cells := 0, slots := 0, locals := 0 }
def pX2_begin_20s  (ih20 : Int32 → Mx → Prop) (Q : Mx → Prop) (x3 : Int32) (σ : Mx) : Prop := (40 ≤ x3 → (Q σ)) ∧ (¬ 40 ≤ x3 → (vp_in x3 40 ∧ (ih20 (x3 + 1) (st σ 0 x3.toNatClampNeg 0))))
noncomputable def pX2_begin_20 (Q : Mx → Prop) (n : Nat) : Int32 → Mx → Prop := Nat.rec (motive := fun _ => Int32 → Mx → Prop) (fun _ _ => False) (fun _ ih => pX2_begin_20s ih Q) n
def pX2_begin_15 (Q : Mx → Prop) (y0 : Int32) (σ : Mx) : Prop := ∃ n, pX2_begin_20 Q n 0 (st σ 2 0 y0)
def pX2_begin (σ : Mx) (x1 : Int32) (x2 : Int32) (Q : Mx → Prop) : Prop := (¬ x1 = 0 → (pX2_begin_15 Q x2 (st σ 1 0 x1))) ∧ (x1 = 0 → (pX2_begin_15 Q 0 (st σ 1 0 x1)))
set_option maxHeartbeats 4000000 in
set_option maxRecDepth 100000 in
theorem bX2_begin_20 {p : Program} {l : Launch} {e : Env} {s : State} {m : MethodId} {args : Array Value} {below : List Frame} {meth : Method} {c : Code} {D : va_G} {κ : Nat → ClassId} {a : Nat → Nat}   {Q : Mx → Prop} (Cc : Cx D κ RX2 cX2_begin 4 none p s m args meth c) (hIt : Ij a 2)   (n : Nat) : ∀ (x3 : Int32) (σ : Mx) (H : Heap) (locs : List Loc) (hPt : va_P D classes (wSh κ a σ) H) (hS : va_S (cA a 2) s.heap H locs) (ls : Array Slot) (hl : lv_has ls 4 [(0, .ref (a 0)), (3, .int x3)]) (h : pX2_begin_20 Q n x3 σ), W p l e rX2_begin s m args below meth c H locs 0 0 (MQ below (QWv Q (fun u H => va_P D classes (wSh κ a u) H) (cA a 2)) args s 0 0 (cA a 2)) (F0 m 20 ls []) := by
  obtain ⟨hx, hb, hml, hown, hts, hr, hlk, hE⟩ := id Cc
  induction n with
  | zero =>
    intro x3 σ H locs hPt hS ls hl h
    exact absurd h (fun z => z)
  | succ n hih20 =>
    intro x3 σ H locs hPt hS ls hl h
    have h : pX2_begin_20s (pX2_begin_20 Q n) Q x3 σ := h
    unfold pX2_begin_20s at h
    refine lv_iload_n hx hb dX2_begin_20 rfl (lv_at hl 1 rfl) ?_
    refine lv_bipush (v := 40) hx hb dX2_begin_21 (by decide) ?_
    refine lv_icmp_ge (tgt := 39) hx hb dX2_begin_23 (by decide) (fun c23 => ?_) (fun c23 => ?_)
    · have h := h.1 c23
      exact W.vret hx hb hr (fun t ht _ => QWv.mk (u := σ) h hPt hS ht) hS.2.2 dX2_begin_39 (hlocks := hlk)
    · have h := h.2 c23
      refine lv_aload_n hx hb dX2_begin_26 rfl (lv_at hl 0 rfl) ?_
      refine gSh_0 Cc hPt (tw_196 hts) dX2_begin_27 ?_
      refine lv_iload_n hx hb dX2_begin_30 rfl (lv_at hl 1 rfl) ?_
      refine lv_iconst (v := 0) hx hb dX2_begin_31 (by decide) ?_
      refine sSh_0 Cc hPt hIt hS ⟨1, by decide, rfl⟩ h.1 dX2_begin_32 (fun H1 locs1 hB hS1 hk => ?_)
      have h := h.2
      have hPt := hB
      have hS := hS1
      refine lv_iinc (v := (x3 + 1)) (lv' := [(3, .int (x3 + 1)), (0, .ref (a 0))]) hx hb dX2_begin_33 hl (k := 1) rfl rfl (by decide) rfl (fun ls hl => ?_)
      refine lv_goto (tgt := 20) hx hb dX2_begin_36 (by decide) ?_
      exact hih20 (x3 + 1) (st σ 0 x3.toNatClampNeg 0) _ _ hPt hS _ (lv_sub hl [1, 0] rfl) h
set_option maxHeartbeats 4000000 in
set_option maxRecDepth 100000 in
theorem bX2_begin_15 {p : Program} {l : Launch} {e : Env} {s : State} {m : MethodId} {args : Array Value} {below : List Frame} {meth : Method} {c : Code} {D : va_G} {κ : Nat → ClassId} {a : Nat → Nat}   {Q : Mx → Prop} (Cc : Cx D κ RX2 cX2_begin 4 none p s m args meth c) (hIt : Ij a 2)   : ∀ (y0 : Int32) (σ : Mx) (H : Heap) (locs : List Loc) (hPt : va_P D classes (wSh κ a σ) H) (hS : va_S (cA a 2) s.heap H locs) (ls : Array Slot) (hl : lv_has ls 4 [(0, .ref (a 0))]) (h : pX2_begin_15 Q y0 σ), W p l e rX2_begin s m args below meth c H locs 0 0 (MQ below (QWv Q (fun u H => va_P D classes (wSh κ a u) H) (cA a 2)) args s 0 0 (cA a 2)) (F0 m 15 ls [.int y0, .ref (a 0)]) := by
  obtain ⟨hx, hb, hml, hown, hts, hr, hlk, hE⟩ := id Cc
  intro y0 σ H locs hPt hS ls hl h
  unfold pX2_begin_15 at h
  refine uSh_2 Cc hPt hIt hS ⟨0, by decide, rfl⟩ (tw_200 hts) dX2_begin_15 (fun H1 locs1 hB hS1 hk => ?_)
  have hPt := hB
  have hS := hS1
  refine lv_iconst (v := 0) hx hb dX2_begin_18 (by decide) ?_
  refine lv_istore_n (lv' := [(3, .int 0), (0, .ref (a 0))]) hx hb dX2_begin_19 rfl hl (by decide) rfl (fun ls hl => ?_)
  obtain ⟨n, h⟩ := h
  exact bX2_begin_20 Cc hIt n 0 (st σ 2 0 y0) _ _ hPt hS _ (lv_sub hl [1, 0] rfl) h
set_option maxHeartbeats 4000000 in
set_option maxRecDepth 100000 in
theorem mX2_begin (l : Launch) (D : va_G) (κ : Nat → ClassId) (a : Nat → Nat) {σ : Mx} {x1 : Int32} {x2 : Int32} {Q : Mx → Prop} (hIt : Ij a 2) (h : pX2_begin σ x1 x2 Q) : Met l yX2_begin (wz yX2_begin cX2_begin 4 none) rX2_begin (va_Pc [.ref (a 0), .int x1, .int x2] (PE D κ (fun H => va_P D classes (wSh κ a σ) H))) (QWv Q (fun u H => va_P D classes (wSh κ a u) H) (cA a 2)) 0 0 (cA a 2) := by
  refine Met_of l (own := RX2) (by decide) rfl (Nat.le_of_ble_eq_true rfl) (fun p e s m below meth c Cc hPP ls hl => ?_)
  obtain ⟨hx, hb, hml, hown, hts, hr, hlk, hE⟩ := id Cc
  have hl : lv_has ls 4 [(0, .ref (a 0)), (1, .int x1), (2, .int x2)] := hl
  have hPt := hPP
  have hS : va_S (cA a 2) s.heap s.heap [] := va_S.rf
  unfold pX2_begin at h
  refine lv_aload_n hx hb dX2_begin_0 rfl (lv_at hl 0 rfl) ?_
  refine lv_iload_n hx hb dX2_begin_1 rfl (lv_at hl 1 rfl) ?_
  refine uSh_1 Cc hPt hIt hS ⟨0, by decide, rfl⟩ (tw_198 hts) dX2_begin_2 (fun H1 locs1 hB hS1 hk => ?_)
  have hPt := hB
  have hS := hS1
  refine lv_aload_n hx hb dX2_begin_5 rfl (lv_at hl 0 rfl) ?_
  refine lv_iload_n hx hb dX2_begin_6 rfl (lv_at hl 1 rfl) ?_
  refine lv_if_ne (tgt := 14) hx hb dX2_begin_7 (by decide) (fun c7 => ?_) (fun c7 => ?_)
  · have h := h.1 c7
    refine lv_iload_n hx hb dX2_begin_14 rfl (lv_at hl 2 rfl) ?_
    exact bX2_begin_15 Cc hIt x2 (st σ 1 0 x1) _ _ hPt hS _ (lv_sub hl [0] rfl) h
  · have h := h.2 c7
    refine lv_iconst (v := 0) hx hb dX2_begin_10 (by decide) ?_
    refine lv_goto (tgt := 15) hx hb dX2_begin_11 (by decide) ?_
    exact bX2_begin_15 Cc hIt 0 (st σ 1 0 x1) _ _ hPt hS _ (lv_sub hl [0] rfl) h
theorem qX2_begin {R : Room} {s : State} {args : Array Value} {own : String} {idx : Nat} (hts : ∀ w ∈ gG, w.before args s = true) (hl : (Cond.methodLink own idx yX2_begin).before args s = true) (hR : rX2_begin.frames + 1 ≤ R.frames ∧ 8 + (4 + 11) + rX2_begin.locals ≤ R.locals) : CallW R s args own RX2 idx yX2_begin cX2_begin 4 none (wz yX2_begin cX2_begin 4 none) rX2_begin 0 0 2 := ⟨kw 2 hts mw_692 rfl rfl (tw_74 hts) hl (by decide +kernel) hR, tw_690 hts, tw_691 hts⟩
abbrev rX2_put : Room := { frames := 0, cells := 0, slots := 0, locals := 0 }
def pX2_put_47 (Q : Mx → Prop) (σ : Mx) : Prop := Q σ
def pX2_put (σ : Mx) (x1 : Int32) (x2 : Int32) (Q : Mx → Prop) : Prop := (¬ (σ 1 0) = 8 → ((¬ (σ 1 0) = 16 → (vp_in x1 40 ∧ (pX2_put_47 Q (st σ 0 x1.toNatClampNeg x2)))) ∧ ((σ 1 0) = 16 → (vp_in x1 40 ∧ (pX2_put_47 Q (st σ 0 x1.toNatClampNeg x2.toInt16.toInt32)))))) ∧ ((σ 1 0) = 8 → (vp_in x1 40 ∧ (pX2_put_47 Q (st σ 0 x1.toNatClampNeg x2.toInt8.toInt32))))
set_option maxHeartbeats 4000000 in
set_option maxRecDepth 100000 in
theorem bX2_put_47 {p : Program} {l : Launch} {e : Env} {s : State} {m : MethodId} {args : Array Value} {below : List Frame} {meth : Method} {c : Code} {D : va_G} {κ : Nat → ClassId} {a : Nat → Nat}   {Q : Mx → Prop} (Cc : Cx D κ RX2 cX2_put 3 none p s m args meth c) (hIt : Ij a 2)   : ∀ (σ : Mx) (H : Heap) (locs : List Loc) (hPt : va_P D classes (wSh κ a σ) H) (hS : va_S (cA a 2) s.heap H locs) (ls : Array Slot) (hl : lv_has ls 3 []) (h : pX2_put_47 Q σ), W p l e rX2_put s m args below meth c H locs 0 0 (MQ below (QWv Q (fun u H => va_P D classes (wSh κ a u) H) (cA a 2)) args s 0 0 (cA a 2)) (F0 m 47 ls []) := by
  obtain ⟨hx, hb, hml, hown, hts, hr, hlk, hE⟩ := id Cc
  intro σ H locs hPt hS ls hl h
  unfold pX2_put_47 at h
  exact W.vret hx hb hr (fun t ht _ => QWv.mk (u := σ) h hPt hS ht) hS.2.2 dX2_put_47 (hlocks := hlk)
set_option maxHeartbeats 4000000 in
set_option maxRecDepth 100000 in
theorem mX2_put (l : Launch) (D : va_G) (κ : Nat → ClassId) (a : Nat → Nat) {σ : Mx} {x1 : Int32} {x2 : Int32} {Q : Mx → Prop} (hIt : Ij a 2) (h : pX2_put σ x1 x2 Q) : Met l yX2_put (wz yX2_put cX2_put 3 none) rX2_put (va_Pc [.ref (a 0), .int x1, .int x2] (PE D κ (fun H => va_P D classes (wSh κ a σ) H))) (QWv Q (fun u H => va_P D classes (wSh κ a u) H) (cA a 2)) 0 0 (cA a 2) := by
  refine Met_of l (own := RX2) (by decide) rfl (Nat.le_of_ble_eq_true rfl) (fun p e s m below meth c Cc hPP ls hl => ?_)
  obtain ⟨hx, hb, hml, hown, hts, hr, hlk, hE⟩ := id Cc
  have hl : lv_has ls 3 [(0, .ref (a 0)), (1, .int x1), (2, .int x2)] := hl
  have hPt := hPP
  have hS : va_S (cA a 2) s.heap s.heap [] := va_S.rf
  unfold pX2_put at h
  refine lv_aload_n hx hb dX2_put_0 rfl (lv_at hl 0 rfl) ?_
  refine gSh_1 Cc hPt (tw_198 hts) dX2_put_1 ?_
  refine lv_bipush (v := 8) hx hb dX2_put_4 (by decide) ?_
  refine lv_icmp_ne (tgt := 20) hx hb dX2_put_6 (by decide) (fun c6 => ?_) (fun c6 => ?_)
  · have h := h.1 c6
    refine lv_aload_n hx hb dX2_put_20 rfl (lv_at hl 0 rfl) ?_
    refine gSh_1 Cc hPt (tw_198 hts) dX2_put_21 ?_
    refine lv_bipush (v := 16) hx hb dX2_put_24 (by decide) ?_
    refine lv_icmp_ne (tgt := 40) hx hb dX2_put_26 (by decide) (fun c26 => ?_) (fun c26 => ?_)
    · have h := h.1 c26
      refine lv_aload_n hx hb dX2_put_40 rfl (lv_at hl 0 rfl) ?_
      refine gSh_0 Cc hPt (tw_196 hts) dX2_put_41 ?_
      refine lv_iload_n hx hb dX2_put_44 rfl (lv_at hl 1 rfl) ?_
      refine lv_iload_n hx hb dX2_put_45 rfl (lv_at hl 2 rfl) ?_
      refine sSh_0 Cc hPt hIt hS ⟨1, by decide, rfl⟩ h.1 dX2_put_46 (fun H1 locs1 hB hS1 hk => ?_)
      have h := h.2
      have hPt := hB
      have hS := hS1
      exact bX2_put_47 Cc hIt (st σ 0 x1.toNatClampNeg x2) _ _ hPt hS _ (lv_sub hl [] rfl) h
    · have h := h.2 c26
      refine lv_aload_n hx hb dX2_put_29 rfl (lv_at hl 0 rfl) ?_
      refine gSh_0 Cc hPt (tw_196 hts) dX2_put_30 ?_
      refine lv_iload_n hx hb dX2_put_33 rfl (lv_at hl 1 rfl) ?_
      refine lv_iload_n hx hb dX2_put_34 rfl (lv_at hl 2 rfl) ?_
      refine lv_i2s (v := x2.toInt16.toInt32) hx hb dX2_put_35 rfl ?_
      refine sSh_0 Cc hPt hIt hS ⟨1, by decide, rfl⟩ h.1 dX2_put_36 (fun H1 locs1 hB hS1 hk => ?_)
      have h := h.2
      have hPt := hB
      have hS := hS1
      refine lv_goto (tgt := 47) hx hb dX2_put_37 (by decide) ?_
      exact bX2_put_47 Cc hIt (st σ 0 x1.toNatClampNeg x2.toInt16.toInt32) _ _ hPt hS _ (lv_sub hl [] rfl) h
  · have h := h.2 c6
    refine lv_aload_n hx hb dX2_put_9 rfl (lv_at hl 0 rfl) ?_
    refine gSh_0 Cc hPt (tw_196 hts) dX2_put_10 ?_
    refine lv_iload_n hx hb dX2_put_13 rfl (lv_at hl 1 rfl) ?_
    refine lv_iload_n hx hb dX2_put_14 rfl (lv_at hl 2 rfl) ?_
    refine lv_i2b (v := x2.toInt8.toInt32) hx hb dX2_put_15 rfl ?_
    refine sSh_0 Cc hPt hIt hS ⟨1, by decide, rfl⟩ h.1 dX2_put_16 (fun H1 locs1 hB hS1 hk => ?_)
    have h := h.2
    have hPt := hB
    have hS := hS1
    refine lv_goto (tgt := 47) hx hb dX2_put_17 (by decide) ?_
    exact bX2_put_47 Cc hIt (st σ 0 x1.toNatClampNeg x2.toInt8.toInt32) _ _ hPt hS _ (lv_sub hl [] rfl) h
theorem qX2_put {R : Room} {s : State} {args : Array Value} {own : String} {idx : Nat} (hts : ∀ w ∈ gG, w.before args s = true) (hl : (Cond.methodLink own idx yX2_put).before args s = true) (hR : rX2_put.frames + 1 ≤ R.frames ∧ 8 + (3 + 11) + rX2_put.locals ≤ R.locals) : CallW R s args own RX2 idx yX2_put cX2_put 3 none (wz yX2_put cX2_put 3 none) rX2_put 0 0 2 := ⟨kw 2 hts mw_700 rfl rfl (tw_74 hts) hl (by decide +kernel) hR, tw_698 hts, tw_699 hts⟩
abbrev rX2_hasRun : Room := { frames := 0, cells := 0, slots := 0, locals := 0 }
def pX2_hasRun_31 (σ : Mx) (Q : Int32 → Prop) (y0 : Int32) : Prop := (y0 = 0 ∨ y0 = 1) ∧ (Q y0)
def pX2_hasRun_30 (σ : Mx) (Q : Int32 → Prop)  : Prop := pX2_hasRun_31 σ Q 0
def pX2_hasRun (σ : Mx) (x1 : Int32) (x2 : Int32) (Q : Int32 → Prop) : Prop := (x1 < 0 → (pX2_hasRun_30 σ Q )) ∧ (¬ x1 < 0 → ((x2 < 0 → (pX2_hasRun_30 σ Q )) ∧ (¬ x2 < 0 → (((σ 2 0) < x1 → (pX2_hasRun_30 σ Q )) ∧ (¬ (σ 2 0) < x1 → ((((σ 2 0) - x1) < x2 → (pX2_hasRun_30 σ Q )) ∧ (¬ ((σ 2 0) - x1) < x2 → (pX2_hasRun_31 σ Q 1))))))))
set_option maxHeartbeats 4000000 in
set_option maxRecDepth 100000 in
theorem bX2_hasRun_31 {p : Program} {l : Launch} {e : Env} {s : State} {m : MethodId} {args : Array Value} {below : List Frame} {meth : Method} {c : Code} {D : va_G} {κ : Nat → ClassId} {a : Nat → Nat} {σ : Mx}  {Q : Int32 → Prop} (Cc : Cx D κ RX2 cX2_hasRun 3 (some .boolean) p s m args meth c)  (hPt : va_P D classes (wSh κ a σ) s.heap)  : ∀ (y0 : Int32) (ls : Array Slot) (hl : lv_has ls 3 []) (h : pX2_hasRun_31 σ Q y0), W p l e rX2_hasRun s m args below meth c s.heap [] 0 0 (MQ below (RQ Q) args s 0 0 (fun _ => False)) (F0 m 31 ls [.int y0]) := by
  obtain ⟨hx, hb, hml, hown, hts, hr, hlk, hE⟩ := id Cc
  intro y0 ls hl h
  unfold pX2_hasRun_31 at h
  exact W.zret (v := y0) (ty := .boolean) hx hb hr (bool_nar h.1) (fun t ht _ => RQ.mk h.2 ht) (fun _ h9 => by cases h9) dX2_hasRun_31 (hlocks := hlk)
set_option maxHeartbeats 4000000 in
set_option maxRecDepth 100000 in
theorem bX2_hasRun_30 {p : Program} {l : Launch} {e : Env} {s : State} {m : MethodId} {args : Array Value} {below : List Frame} {meth : Method} {c : Code} {D : va_G} {κ : Nat → ClassId} {a : Nat → Nat} {σ : Mx}  {Q : Int32 → Prop} (Cc : Cx D κ RX2 cX2_hasRun 3 (some .boolean) p s m args meth c)  (hPt : va_P D classes (wSh κ a σ) s.heap)  : ∀ (ls : Array Slot) (hl : lv_has ls 3 []) (h : pX2_hasRun_30 σ Q ), W p l e rX2_hasRun s m args below meth c s.heap [] 0 0 (MQ below (RQ Q) args s 0 0 (fun _ => False)) (F0 m 30 ls []) := by
  obtain ⟨hx, hb, hml, hown, hts, hr, hlk, hE⟩ := id Cc
  intro ls hl h
  unfold pX2_hasRun_30 at h
  refine lv_iconst (v := 0) hx hb dX2_hasRun_30 (by decide) ?_
  exact bX2_hasRun_31 Cc hPt 0  _ (lv_sub hl [] rfl) h
set_option maxHeartbeats 4000000 in
set_option maxRecDepth 100000 in
theorem mX2_hasRun (l : Launch) (D : va_G) (κ : Nat → ClassId) (a : Nat → Nat) {σ : Mx} {x1 : Int32} {x2 : Int32} {Q : Int32 → Prop}  (h : pX2_hasRun σ x1 x2 Q) : Met l yX2_hasRun (wz yX2_hasRun cX2_hasRun 3 (some .boolean)) rX2_hasRun (va_Pc [.ref (a 0), .int x1, .int x2] (PE D κ (fun H => va_P D classes (wSh κ a σ) H))) (RQ Q) 0 0 (fun _ => False) := by
  refine Met_of l (own := RX2) (by decide) rfl (Nat.le_of_ble_eq_true rfl) (fun p e s m below meth c Cc hPP ls hl => ?_)
  obtain ⟨hx, hb, hml, hown, hts, hr, hlk, hE⟩ := id Cc
  have hl : lv_has ls 3 [(0, .ref (a 0)), (1, .int x1), (2, .int x2)] := hl
  have hPt := hPP
  unfold pX2_hasRun at h
  refine lv_iload_n hx hb dX2_hasRun_0 rfl (lv_at hl 1 rfl) ?_
  refine lv_if_lt (tgt := 30) hx hb dX2_hasRun_1 (by decide) (fun c1 => ?_) (fun c1 => ?_)
  · have h := h.1 c1
    exact bX2_hasRun_30 Cc hPt   _ (lv_sub hl [] rfl) h
  · have h := h.2 c1
    refine lv_iload_n hx hb dX2_hasRun_4 rfl (lv_at hl 2 rfl) ?_
    refine lv_if_lt (tgt := 30) hx hb dX2_hasRun_5 (by decide) (fun c5 => ?_) (fun c5 => ?_)
    · have h := h.1 c5
      exact bX2_hasRun_30 Cc hPt   _ (lv_sub hl [] rfl) h
    · have h := h.2 c5
      refine lv_iload_n hx hb dX2_hasRun_8 rfl (lv_at hl 1 rfl) ?_
      refine lv_aload_n hx hb dX2_hasRun_9 rfl (lv_at hl 0 rfl) ?_
      refine gSh_2 Cc hPt (tw_200 hts) dX2_hasRun_10 ?_
      refine lv_icmp_gt (tgt := 30) hx hb dX2_hasRun_13 (by decide) (fun c13 => ?_) (fun c13 => ?_)
      · have h := h.1 c13
        exact bX2_hasRun_30 Cc hPt   _ (lv_sub hl [] rfl) h
      · have h := h.2 c13
        refine lv_iload_n hx hb dX2_hasRun_16 rfl (lv_at hl 2 rfl) ?_
        refine lv_aload_n hx hb dX2_hasRun_17 rfl (lv_at hl 0 rfl) ?_
        refine gSh_2 Cc hPt (tw_200 hts) dX2_hasRun_18 ?_
        refine lv_iload_n hx hb dX2_hasRun_21 rfl (lv_at hl 1 rfl) ?_
        refine lv_isub hx hb dX2_hasRun_22 ?_
        refine lv_icmp_gt (tgt := 30) hx hb dX2_hasRun_23 (by decide) (fun c23 => ?_) (fun c23 => ?_)
        · have h := h.1 c23
          exact bX2_hasRun_30 Cc hPt   _ (lv_sub hl [] rfl) h
        · have h := h.2 c23
          refine lv_iconst (v := 1) hx hb dX2_hasRun_26 (by decide) ?_
          refine lv_goto (tgt := 31) hx hb dX2_hasRun_27 (by decide) ?_
          exact bX2_hasRun_31 Cc hPt 1  _ (lv_sub hl [] rfl) h
theorem qX2_hasRun {R : Room} {s : State} {args : Array Value} {own : String} {idx : Nat} (hts : ∀ w ∈ gG, w.before args s = true) (hl : (Cond.methodLink own idx yX2_hasRun).before args s = true) (hR : rX2_hasRun.frames + 1 ≤ R.frames ∧ 8 + (3 + 11) + rX2_hasRun.locals ≤ R.locals) : CallW R s args own RX2 idx yX2_hasRun cX2_hasRun 3 (some .boolean) (wz yX2_hasRun cX2_hasRun 3 (some .boolean)) rX2_hasRun 0 0 2 := ⟨kw 2 hts mw_708 rfl rfl (tw_74 hts) hl (by decide +kernel) hR, tw_706 hts, tw_707 hts⟩
