abbrev rX0_weigh : Room := { frames := 2, cells := 0, slots := 0, locals := 47 }
def pX0_weigh_36s (σ2 : Mx) (ih2 : Int32 → Mx → Prop) (ih36 : Int32 → Int32 → Mx → Prop) (Q : Mx → Prop) (x2 : Int32) (x3 : Int32) (σ : Mx) : Prop := ((σ2 8 0) ≤ x3 → (ih2 (x2 + 1) σ)) ∧ (¬ (σ2 8 0) ≤ x3 → (pX1_gapOf σ2 x2 x3 (fun r57 => (vp_in ((x2 * 8) + x3) 64 ∧ (ih36 x2 (x3 + 1) (st σ 0 ((x2 * 8) + x3).toNatClampNeg r57))))))
noncomputable def pX0_weigh_36 (σ2 : Mx) (ih2 : Int32 → Mx → Prop) (Q : Mx → Prop) (n : Nat) : Int32 → Int32 → Mx → Prop := Nat.rec (motive := fun _ => Int32 → Int32 → Mx → Prop) (fun _ _ _ => False) (fun _ ih => pX0_weigh_36s σ2 ih2 ih Q) n
def pX0_weigh_2s (σ2 : Mx) (ih2 : Int32 → Mx → Prop) (Q : Mx → Prop) (x2 : Int32) (σ : Mx) : Prop := ((σ2 8 0) ≤ x2 → (Q σ)) ∧ (¬ (σ2 8 0) ≤ x2 → (pX1_edgeOf σ2 x2 0 (fun r18 => (vp_in x2 8 ∧ (pX1_edgeOf σ2 x2 1 (fun r30 => (vp_in x2 8 ∧ (∃ n, pX0_weigh_36 σ2 ih2 Q n x2 0 (st (st σ 1 x2.toNatClampNeg r18) 2 x2.toNatClampNeg r30)))))))))
noncomputable def pX0_weigh_2 (σ2 : Mx) (Q : Mx → Prop) (n : Nat) : Int32 → Mx → Prop := Nat.rec (motive := fun _ => Int32 → Mx → Prop) (fun _ _ => False) (fun _ ih => pX0_weigh_2s σ2 ih Q) n
def pX0_weigh (σ : Mx) (σ2 : Mx)  (Q : Mx → Prop) : Prop := ∃ n, pX0_weigh_2 σ2 Q n 0 σ
set_option maxHeartbeats 4000000 in
set_option maxRecDepth 100000 in
theorem bX0_weigh_36 {p : Program} {l : Launch} {e : Env} {s : State} {m : MethodId} {args : Array Value} {below : List Frame} {meth : Method} {c : Code} {D : va_G} {κ : Nat → ClassId} {a : Nat → Nat} {a2 : Nat → Nat} {σ2 : Mx} {ih2 : Int32 → Mx → Prop} {Q : Mx → Prop} (Cc : Cx D κ RX0 cX0_weigh 4 none p s m args meth c) (hIt : Ij a 5) (hDj : Dj a 5 a2 8)  (hih2 : ∀ (x2 : Int32) (σ : Mx) (H : Heap) (locs : List Loc) (hPt : va_P D classes (wLy κ a σ) H) (hPu : va_P D classes (wCo κ a2 σ2) H) (hS : va_S (cA a 5) s.heap H locs) (ls : Array Slot) (hl : lv_has ls 4 [(0, .ref (a 0)), (1, .ref (a2 0)), (2, .int x2)]) (h : ih2 x2 σ), W p l e rX0_weigh s m args below meth c H locs 0 0 (MQ below (QWv Q (fun u H => va_P D classes (wLy κ a u) H) (cA a 5)) args s 0 0 (cA a 5)) (F0 m 2 ls [])) (n : Nat) : ∀ (x2 : Int32) (x3 : Int32) (σ : Mx) (H : Heap) (locs : List Loc) (hPt : va_P D classes (wLy κ a σ) H) (hPu : va_P D classes (wCo κ a2 σ2) H) (hS : va_S (cA a 5) s.heap H locs) (ls : Array Slot) (hl : lv_has ls 4 [(0, .ref (a 0)), (1, .ref (a2 0)), (2, .int x2), (3, .int x3)]) (h : pX0_weigh_36 σ2 ih2 Q n x2 x3 σ), W p l e rX0_weigh s m args below meth c H locs 0 0 (MQ below (QWv Q (fun u H => va_P D classes (wLy κ a u) H) (cA a 5)) args s 0 0 (cA a 5)) (F0 m 36 ls []) := by
  obtain ⟨hx, hb, hml, hown, hts, hr, hlk, hE⟩ := id Cc
  induction n with
  | zero =>
    intro x2 x3 σ H locs hPt hPu hS ls hl h
    exact absurd h (fun z => z)
  | succ n hih36 =>
    intro x2 x3 σ H locs hPt hPu hS ls hl h
    have h : pX0_weigh_36s σ2 ih2 (pX0_weigh_36 σ2 ih2 Q n) Q x2 x3 σ := h
    unfold pX0_weigh_36s at h
    refine lv_iload_n hx hb dX0_weigh_36 rfl (lv_at hl 3 rfl) ?_
    refine lv_aload_n hx hb dX0_weigh_37 rfl (lv_at hl 1 rfl) ?_
    refine gCo_8 Cc hPu (tw_115 hts) dX0_weigh_38 ?_
    refine lv_icmp_ge (tgt := 67) hx hb dX0_weigh_41 (by decide) (fun c41 => ?_) (fun c41 => ?_)
    · have h := h.1 c41
      refine lv_iinc (v := (x2 + 1)) (lv' := [(2, .int (x2 + 1)), (0, .ref (a 0)), (1, .ref (a2 0)), (3, .int x3)]) hx hb dX0_weigh_67 hl (k := 2) rfl rfl (by decide) rfl (fun ls hl => ?_)
      refine lv_goto (tgt := 2) hx hb dX0_weigh_70 (by decide) ?_
      exact hih2 (x2 + 1) σ _ _ hPt hPu hS _ (lv_sub hl [1, 2, 0] rfl) h
    · have h := h.2 c41
      refine lv_aload_n hx hb dX0_weigh_44 rfl (lv_at hl 0 rfl) ?_
      refine gLy_0 Cc hPt (tw_153 hts) dX0_weigh_45 ?_
      refine lv_iload_n hx hb dX0_weigh_48 rfl (lv_at hl 2 rfl) ?_
      refine lv_bipush (v := 8) hx hb dX0_weigh_49 (by decide) ?_
      refine lv_imul hx hb dX0_weigh_51 ?_
      refine lv_iload_n hx hb dX0_weigh_52 rfl (lv_at hl 3 rfl) ?_
      refine lv_iadd hx hb dX0_weigh_53 ?_
      refine lv_aload_n hx hb dX0_weigh_54 rfl (lv_at hl 1 rfl) ?_
      refine lv_iload_n hx hb dX0_weigh_55 rfl (lv_at hl 2 rfl) ?_
      refine lv_iload_n hx hb dX0_weigh_56 rfl (lv_at hl 3 rfl) ?_
      refine kR (kV Cc (mX1_gapOf l D κ a2 h) (qX1_gapOf hts (tw_402 hts) ⟨(Nat.le_of_ble_eq_true rfl), (Nat.le_of_ble_eq_true rfl)⟩) (va_recv hE.1 hPu (ci := 1) (q0 := 0) rfl rfl) (rest := [.int ((x2 * 8) + x3), .ref (a 1)]) hPu rfl hl.1 rfl (Nat.le_of_ble_eq_true rfl) dX0_weigh_57 ⟨Nat.zero_le _, Nat.zero_le _⟩) (fun r57 h => ?_)
      refine sLy_0 Cc hPt hIt hS ⟨1, by decide, rfl⟩ h.1 dX0_weigh_60 (fun H1 locs1 hB hS1 hk => ?_)
      have h := h.2
      have hPu := kp1 wCo_wl hPu hDj (i0 := 1) (by decide) hk
      have hPt := hB
      have hS := hS1
      refine lv_iinc (v := (x3 + 1)) (lv' := [(3, .int (x3 + 1)), (0, .ref (a 0)), (1, .ref (a2 0)), (2, .int x2)]) hx hb dX0_weigh_61 hl (k := 3) rfl rfl (by decide) rfl (fun ls hl => ?_)
      refine lv_goto (tgt := 36) hx hb dX0_weigh_64 (by decide) ?_
      exact hih36 x2 (x3 + 1) (st σ 0 ((x2 * 8) + x3).toNatClampNeg r57) _ _ hPt hPu hS _ (lv_sub hl [1, 2, 3, 0] rfl) h
set_option maxHeartbeats 4000000 in
set_option maxRecDepth 100000 in
theorem bX0_weigh_2 {p : Program} {l : Launch} {e : Env} {s : State} {m : MethodId} {args : Array Value} {below : List Frame} {meth : Method} {c : Code} {D : va_G} {κ : Nat → ClassId} {a : Nat → Nat} {a2 : Nat → Nat} {σ2 : Mx}  {Q : Mx → Prop} (Cc : Cx D κ RX0 cX0_weigh 4 none p s m args meth c) (hIt : Ij a 5) (hDj : Dj a 5 a2 8)   (n : Nat) : ∀ (x2 : Int32) (σ : Mx) (H : Heap) (locs : List Loc) (hPt : va_P D classes (wLy κ a σ) H) (hPu : va_P D classes (wCo κ a2 σ2) H) (hS : va_S (cA a 5) s.heap H locs) (ls : Array Slot) (hl : lv_has ls 4 [(0, .ref (a 0)), (1, .ref (a2 0)), (2, .int x2)]) (h : pX0_weigh_2 σ2 Q n x2 σ), W p l e rX0_weigh s m args below meth c H locs 0 0 (MQ below (QWv Q (fun u H => va_P D classes (wLy κ a u) H) (cA a 5)) args s 0 0 (cA a 5)) (F0 m 2 ls []) := by
  obtain ⟨hx, hb, hml, hown, hts, hr, hlk, hE⟩ := id Cc
  induction n with
  | zero =>
    intro x2 σ H locs hPt hPu hS ls hl h
    exact absurd h (fun z => z)
  | succ n hih2 =>
    intro x2 σ H locs hPt hPu hS ls hl h
    have h : pX0_weigh_2s σ2 (pX0_weigh_2 σ2 Q n) Q x2 σ := h
    unfold pX0_weigh_2s at h
    refine lv_iload_n hx hb dX0_weigh_2 rfl (lv_at hl 2 rfl) ?_
    refine lv_aload_n hx hb dX0_weigh_3 rfl (lv_at hl 1 rfl) ?_
    refine gCo_8 Cc hPu (tw_115 hts) dX0_weigh_4 ?_
    refine lv_icmp_ge (tgt := 73) hx hb dX0_weigh_7 (by decide) (fun c7 => ?_) (fun c7 => ?_)
    · have h := h.1 c7
      exact W.vret hx hb hr (fun t ht _ => QWv.mk (u := σ) h hPt hS ht) hS.2.2 dX0_weigh_73 (hlocks := hlk)
    · have h := h.2 c7
      refine lv_aload_n hx hb dX0_weigh_10 rfl (lv_at hl 0 rfl) ?_
      refine gLy_1 Cc hPt (tw_154 hts) dX0_weigh_11 ?_
      refine lv_iload_n hx hb dX0_weigh_14 rfl (lv_at hl 2 rfl) ?_
      refine lv_aload_n hx hb dX0_weigh_15 rfl (lv_at hl 1 rfl) ?_
      refine lv_iload_n hx hb dX0_weigh_16 rfl (lv_at hl 2 rfl) ?_
      refine lv_iconst (v := 0) hx hb dX0_weigh_17 (by decide) ?_
      refine kR (kV Cc (mX1_edgeOf l D κ a2 h) (qX1_edgeOf hts (tw_401 hts) ⟨(Nat.le_of_ble_eq_true rfl), (Nat.le_of_ble_eq_true rfl)⟩) (va_recv hE.1 hPu (ci := 1) (q0 := 0) rfl rfl) (rest := [.int x2, .ref (a 2)]) hPu rfl hl.1 rfl (Nat.le_of_ble_eq_true rfl) dX0_weigh_18 ⟨Nat.zero_le _, Nat.zero_le _⟩) (fun r18 h => ?_)
      refine sLy_1 Cc hPt hIt hS ⟨2, by decide, rfl⟩ h.1 dX0_weigh_21 (fun H1 locs1 hB hS1 hk => ?_)
      have h := h.2
      have hPu := kp1 wCo_wl hPu hDj (i0 := 2) (by decide) hk
      have hPt := hB
      have hS := hS1
      refine lv_aload_n hx hb dX0_weigh_22 rfl (lv_at hl 0 rfl) ?_
      refine gLy_2 Cc hPt (tw_155 hts) dX0_weigh_23 ?_
      refine lv_iload_n hx hb dX0_weigh_26 rfl (lv_at hl 2 rfl) ?_
      refine lv_aload_n hx hb dX0_weigh_27 rfl (lv_at hl 1 rfl) ?_
      refine lv_iload_n hx hb dX0_weigh_28 rfl (lv_at hl 2 rfl) ?_
      refine lv_iconst (v := 1) hx hb dX0_weigh_29 (by decide) ?_
      refine kR (kV Cc (mX1_edgeOf l D κ a2 h) (qX1_edgeOf hts (tw_401 hts) ⟨(Nat.le_of_ble_eq_true rfl), (Nat.le_of_ble_eq_true rfl)⟩) (va_recv hE.1 hPu (ci := 1) (q0 := 0) rfl rfl) (rest := [.int x2, .ref (a 3)]) hPu rfl hl.1 rfl (Nat.le_of_ble_eq_true rfl) dX0_weigh_30 ⟨Nat.zero_le _, Nat.zero_le _⟩) (fun r30 h => ?_)
      refine sLy_2 Cc hPt hIt hS ⟨3, by decide, rfl⟩ h.1 dX0_weigh_33 (fun H1 locs1 hB hS1 hk => ?_)
      have h := h.2
      have hPu := kp1 wCo_wl hPu hDj (i0 := 3) (by decide) hk
      have hPt := hB
      have hS := hS1
      refine lv_iconst (v := 0) hx hb dX0_weigh_34 (by decide) ?_
      refine lv_istore_n (lv' := [(3, .int 0), (0, .ref (a 0)), (1, .ref (a2 0)), (2, .int x2)]) hx hb dX0_weigh_35 rfl hl (by decide) rfl (fun ls hl => ?_)
      obtain ⟨n, h⟩ := h
      exact bX0_weigh_36 Cc hIt hDj hih2 n x2 0 (st (st σ 1 x2.toNatClampNeg r18) 2 x2.toNatClampNeg r30) _ _ hPt hPu hS _ (lv_sub hl [1, 2, 3, 0] rfl) h
set_option maxHeartbeats 4000000 in
set_option maxRecDepth 100000 in
theorem mX0_weigh (l : Launch) (D : va_G) (κ : Nat → ClassId) (a : Nat → Nat) (a2 : Nat → Nat) {σ : Mx} {σ2 : Mx}  {Q : Mx → Prop} (hIt : Ij a 5) (hDj : Dj a 5 a2 8) (h : pX0_weigh σ σ2  Q) : Met l yX0_weigh (wz yX0_weigh cX0_weigh 4 none) rX0_weigh (va_Pc [.ref (a 0), .ref (a2 0)] (PE D κ (fun H => va_P D classes (wLy κ a σ) H ∧ va_P D classes (wCo κ a2 σ2) H))) (QWv Q (fun u H => va_P D classes (wLy κ a u) H) (cA a 5)) 0 0 (cA a 5) := by
  refine Met_of l (own := RX0) (by decide) rfl (Nat.le_of_ble_eq_true rfl) (fun p e s m below meth c Cc hPP ls hl => ?_)
  obtain ⟨hx, hb, hml, hown, hts, hr, hlk, hE⟩ := id Cc
  have hl : lv_has ls 4 [(0, .ref (a 0)), (1, .ref (a2 0))] := hl
  obtain ⟨hPt, hPu⟩ := hPP
  have hS : va_S (cA a 5) s.heap s.heap [] := va_S.rf
  unfold pX0_weigh at h
  refine lv_iconst (v := 0) hx hb dX0_weigh_0 (by decide) ?_
  refine lv_istore_n (lv' := [(2, .int 0), (0, .ref (a 0)), (1, .ref (a2 0))]) hx hb dX0_weigh_1 rfl hl (by decide) rfl (fun ls hl => ?_)
  obtain ⟨n, h⟩ := h
  exact bX0_weigh_2 Cc hIt hDj n 0 σ _ _ hPt hPu hS _ (lv_sub hl [1, 2, 0] rfl) h
theorem qX0_weigh {R : Room} {s : State} {args : Array Value} {own : String} {idx : Nat} (hts : ∀ w ∈ gG, w.before args s = true) (hl : (Cond.methodLink own idx yX0_weigh).before args s = true) (hR : rX0_weigh.frames + 1 ≤ R.frames ∧ 8 + (4 + 11) + rX0_weigh.locals ≤ R.locals) : CallW R s args own RX0 idx yX0_weigh cX0_weigh 4 none (wz yX0_weigh cX0_weigh 4 none) rX0_weigh 0 0 1 := ⟨kw 1 hts mw_400 rfl rfl (tw_72 hts) hl (by decide +kernel) hR, tw_399 hts, tw_1 hts⟩
abbrev rX0_costOfNext : Room := { frames := 0, cells := 0, slots := 0, locals := 0 }
def pX0_costOfNext_24 (σ : Mx) (Q : Int32 → Prop) (x1 : Int32) (x3 : Int32) (y0 : Int32) : Prop := vp_in (((x1 ||| (1 <<< (x3 &&& 31))) * 8) + x3) 2048 ∧ (Q (y0 + (σ 3 (((x1 ||| (1 <<< (x3 &&& 31))) * 8) + x3).toNatClampNeg)))
def pX0_costOfNext (σ : Mx) (x1 : Int32) (x2 : Int32) (x3 : Int32) (Q : Int32 → Prop) : Prop := (0 ≤ x2 → (vp_in ((x2 * 8) + x3) 64 ∧ (pX0_costOfNext_24 σ Q x1 x3 (σ 0 ((x2 * 8) + x3).toNatClampNeg)))) ∧ (¬ 0 ≤ x2 → (vp_in x3 8 ∧ (pX0_costOfNext_24 σ Q x1 x3 (σ 1 x3.toNatClampNeg))))
set_option maxHeartbeats 4000000 in
set_option maxRecDepth 100000 in
theorem bX0_costOfNext_24 {p : Program} {l : Launch} {e : Env} {s : State} {m : MethodId} {args : Array Value} {below : List Frame} {meth : Method} {c : Code} {D : va_G} {κ : Nat → ClassId} {a : Nat → Nat} {σ : Mx}  {Q : Int32 → Prop} (Cc : Cx D κ RX0 cX0_costOfNext 5 (some .int) p s m args meth c)  (hPt : va_P D classes (wLy κ a σ) s.heap)  : ∀ (x1 : Int32) (x3 : Int32) (y0 : Int32) (ls : Array Slot) (hl : lv_has ls 5 [(0, .ref (a 0)), (1, .int x1), (3, .int x3)]) (h : pX0_costOfNext_24 σ Q x1 x3 y0), W p l e rX0_costOfNext s m args below meth c s.heap [] 0 0 (MQ below (RQ Q) args s 0 0 (fun _ => False)) (F0 m 24 ls [.int y0]) := by
  obtain ⟨hx, hb, hml, hown, hts, hr, hlk, hE⟩ := id Cc
  intro x1 x3 y0 ls hl h
  unfold pX0_costOfNext_24 at h
  refine lv_istore (lv' := [(4, .int y0), (0, .ref (a 0)), (1, .int x1), (3, .int x3)]) hx hb dX0_costOfNext_24 hl (by decide) rfl (fun ls hl => ?_)
  refine lv_iload hx hb dX0_costOfNext_26 (lv_at hl 0 rfl) ?_
  refine lv_aload_n hx hb dX0_costOfNext_28 rfl (lv_at hl 1 rfl) ?_
  refine gLy_3 Cc hPt (tw_156 hts) dX0_costOfNext_29 ?_
  refine lv_iload_n hx hb dX0_costOfNext_32 rfl (lv_at hl 2 rfl) ?_
  refine lv_iconst (v := 1) hx hb dX0_costOfNext_33 (by decide) ?_
  refine lv_iload_n hx hb dX0_costOfNext_34 rfl (lv_at hl 3 rfl) ?_
  refine lv_ishl hx hb dX0_costOfNext_35 ?_
  refine lv_ior hx hb dX0_costOfNext_36 ?_
  refine lv_bipush (v := 8) hx hb dX0_costOfNext_37 (by decide) ?_
  refine lv_imul hx hb dX0_costOfNext_39 ?_
  refine lv_iload_n hx hb dX0_costOfNext_40 rfl (lv_at hl 3 rfl) ?_
  refine lv_iadd hx hb dX0_costOfNext_41 ?_
  refine lLy_3 Cc hPt h.1 dX0_costOfNext_42 ?_
  have h := h.2
  refine lv_iadd hx hb dX0_costOfNext_43 ?_
  exact W.iret (v := (y0 + (σ 3 (((x1 ||| (1 <<< (x3 &&& 31))) * 8) + x3).toNatClampNeg))) hx hb hr (fun t ht _ => RQ.mk h ht) (fun _ h9 => by cases h9) dX0_costOfNext_44 (hlocks := hlk)
set_option maxHeartbeats 4000000 in
set_option maxRecDepth 100000 in
theorem mX0_costOfNext (l : Launch) (D : va_G) (κ : Nat → ClassId) (a : Nat → Nat) {σ : Mx} {x1 : Int32} {x2 : Int32} {x3 : Int32} {Q : Int32 → Prop}  (h : pX0_costOfNext σ x1 x2 x3 Q) : Met l yX0_costOfNext (wz yX0_costOfNext cX0_costOfNext 5 (some .int)) rX0_costOfNext (va_Pc [.ref (a 0), .int x1, .int x2, .int x3] (PE D κ (fun H => va_P D classes (wLy κ a σ) H))) (RQ Q) 0 0 (fun _ => False) := by
  refine Met_of l (own := RX0) (by decide) rfl (Nat.le_of_ble_eq_true rfl) (fun p e s m below meth c Cc hPP ls hl => ?_)
  obtain ⟨hx, hb, hml, hown, hts, hr, hlk, hE⟩ := id Cc
  have hl : lv_has ls 5 [(0, .ref (a 0)), (1, .int x1), (2, .int x2), (3, .int x3)] := hl
  have hPt := hPP
  unfold pX0_costOfNext at h
  refine lv_iload_n hx hb dX0_costOfNext_0 rfl (lv_at hl 2 rfl) ?_
  refine lv_if_ge (tgt := 13) hx hb dX0_costOfNext_1 (by decide) (fun c1 => ?_) (fun c1 => ?_)
  · have h := h.1 c1
    refine lv_aload_n hx hb dX0_costOfNext_13 rfl (lv_at hl 0 rfl) ?_
    refine gLy_0 Cc hPt (tw_153 hts) dX0_costOfNext_14 ?_
    refine lv_iload_n hx hb dX0_costOfNext_17 rfl (lv_at hl 2 rfl) ?_
    refine lv_bipush (v := 8) hx hb dX0_costOfNext_18 (by decide) ?_
    refine lv_imul hx hb dX0_costOfNext_20 ?_
    refine lv_iload_n hx hb dX0_costOfNext_21 rfl (lv_at hl 3 rfl) ?_
    refine lv_iadd hx hb dX0_costOfNext_22 ?_
    refine lLy_0 Cc hPt h.1 dX0_costOfNext_23 ?_
    have h := h.2
    exact bX0_costOfNext_24 Cc hPt x1 x3 (σ 0 ((x2 * 8) + x3).toNatClampNeg)  _ (lv_sub hl [0, 1, 3] rfl) h
  · have h := h.2 c1
    refine lv_aload_n hx hb dX0_costOfNext_4 rfl (lv_at hl 0 rfl) ?_
    refine gLy_1 Cc hPt (tw_154 hts) dX0_costOfNext_5 ?_
    refine lv_iload_n hx hb dX0_costOfNext_8 rfl (lv_at hl 3 rfl) ?_
    refine lLy_1 Cc hPt h.1 dX0_costOfNext_9 ?_
    have h := h.2
    refine lv_goto (tgt := 24) hx hb dX0_costOfNext_10 (by decide) ?_
    exact bX0_costOfNext_24 Cc hPt x1 x3 (σ 1 x3.toNatClampNeg)  _ (lv_sub hl [0, 1, 3] rfl) h
theorem qX0_costOfNext {R : Room} {s : State} {args : Array Value} {own : String} {idx : Nat} (hts : ∀ w ∈ gG, w.before args s = true) (hl : (Cond.methodLink own idx yX0_costOfNext).before args s = true) (hR : rX0_costOfNext.frames + 1 ≤ R.frames ∧ 8 + (5 + 11) + rX0_costOfNext.locals ≤ R.locals) : CallW R s args own RX0 idx yX0_costOfNext cX0_costOfNext 5 (some .int) (wz yX0_costOfNext cX0_costOfNext 5 (some .int)) rX0_costOfNext 0 0 3 := ⟨kw 3 hts mw_415 rfl rfl (tw_72 hts) hl (by decide +kernel) hR, tw_414 hts, tw_4 hts⟩
abbrev rX0_leastRest : Room := { frames := 1, cells := 0, slots := 0, locals := 24 }
def pX0_leastRest_37 (σ : Mx) (ih7 : Int32 → Int32 → Int32 → Int32 → Int32 → Prop) (Q : Int32 → Prop) (x1 : Int32) (x2 : Int32) (x3 : Int32) (x4 : Int32) (x5 : Int32) : Prop := ih7 x1 x2 x3 x4 (x5 + 1)
def pX0_leastRest_7s (σ : Mx) (ih7 : Int32 → Int32 → Int32 → Int32 → Int32 → Prop) (Q : Int32 → Prop) (x1 : Int32) (x2 : Int32) (x3 : Int32) (x4 : Int32) (x5 : Int32) : Prop := (x1 ≤ x5 → (Q x4)) ∧ (¬ x1 ≤ x5 → ((¬ ((x2 >>> (x5 &&& 31)) &&& 1) = 0 → (pX0_leastRest_37 σ ih7 Q x1 x2 x3 x4 x5)) ∧ (((x2 >>> (x5 &&& 31)) &&& 1) = 0 → (pX0_costOfNext σ x2 x3 x5 (fun r29 => (∀ v32 : Int32, v32 = (if r29 < x4 then r29 else x4) → (pX0_leastRest_37 σ ih7 Q x1 x2 x3 v32 x5)))))))
noncomputable def pX0_leastRest_7 (σ : Mx) (Q : Int32 → Prop) (n : Nat) : Int32 → Int32 → Int32 → Int32 → Int32 → Prop := Nat.rec (motive := fun _ => Int32 → Int32 → Int32 → Int32 → Int32 → Prop) (fun _ _ _ _ _ => False) (fun _ ih => pX0_leastRest_7s σ ih Q) n
def pX0_leastRest (σ : Mx) (x1 : Int32) (x2 : Int32) (x3 : Int32) (Q : Int32 → Prop) : Prop := ∃ n, pX0_leastRest_7 σ Q n x1 x2 x3 1000000 0
set_option maxHeartbeats 4000000 in
set_option maxRecDepth 100000 in
theorem bX0_leastRest_37 {p : Program} {l : Launch} {e : Env} {s : State} {m : MethodId} {args : Array Value} {below : List Frame} {meth : Method} {c : Code} {D : va_G} {κ : Nat → ClassId} {a : Nat → Nat} {σ : Mx} {ih7 : Int32 → Int32 → Int32 → Int32 → Int32 → Prop} {Q : Int32 → Prop} (Cc : Cx D κ RX0 cX0_leastRest 6 (some .int) p s m args meth c)  (hPt : va_P D classes (wLy κ a σ) s.heap) (hih7 : ∀ (x1 : Int32) (x2 : Int32) (x3 : Int32) (x4 : Int32) (x5 : Int32) (ls : Array Slot) (hl : lv_has ls 6 [(0, .ref (a 0)), (1, .int x1), (2, .int x2), (3, .int x3), (4, .int x4), (5, .int x5)]) (h : ih7 x1 x2 x3 x4 x5), W p l e rX0_leastRest s m args below meth c s.heap [] 0 0 (MQ below (RQ Q) args s 0 0 (fun _ => False)) (F0 m 7 ls [])) : ∀ (x1 : Int32) (x2 : Int32) (x3 : Int32) (x4 : Int32) (x5 : Int32) (ls : Array Slot) (hl : lv_has ls 6 [(0, .ref (a 0)), (1, .int x1), (2, .int x2), (3, .int x3), (4, .int x4), (5, .int x5)]) (h : pX0_leastRest_37 σ ih7 Q x1 x2 x3 x4 x5), W p l e rX0_leastRest s m args below meth c s.heap [] 0 0 (MQ below (RQ Q) args s 0 0 (fun _ => False)) (F0 m 37 ls []) := by
  obtain ⟨hx, hb, hml, hown, hts, hr, hlk, hE⟩ := id Cc
  intro x1 x2 x3 x4 x5 ls hl h
  unfold pX0_leastRest_37 at h
  refine lv_iinc (v := (x5 + 1)) (lv' := [(5, .int (x5 + 1)), (0, .ref (a 0)), (1, .int x1), (2, .int x2), (3, .int x3), (4, .int x4)]) hx hb dX0_leastRest_37 hl (k := 5) rfl rfl (by decide) rfl (fun ls hl => ?_)
  refine lv_goto (tgt := 7) hx hb dX0_leastRest_40 (by decide) ?_
  exact hih7 x1 x2 x3 x4 (x5 + 1)  _ (lv_sub hl [1, 2, 3, 4, 5, 0] rfl) h
set_option maxHeartbeats 4000000 in
set_option maxRecDepth 100000 in
theorem bX0_leastRest_7 {p : Program} {l : Launch} {e : Env} {s : State} {m : MethodId} {args : Array Value} {below : List Frame} {meth : Method} {c : Code} {D : va_G} {κ : Nat → ClassId} {a : Nat → Nat} {σ : Mx}  {Q : Int32 → Prop} (Cc : Cx D κ RX0 cX0_leastRest 6 (some .int) p s m args meth c)  (hPt : va_P D classes (wLy κ a σ) s.heap)  (n : Nat) : ∀ (x1 : Int32) (x2 : Int32) (x3 : Int32) (x4 : Int32) (x5 : Int32) (ls : Array Slot) (hl : lv_has ls 6 [(0, .ref (a 0)), (1, .int x1), (2, .int x2), (3, .int x3), (4, .int x4), (5, .int x5)]) (h : pX0_leastRest_7 σ Q n x1 x2 x3 x4 x5), W p l e rX0_leastRest s m args below meth c s.heap [] 0 0 (MQ below (RQ Q) args s 0 0 (fun _ => False)) (F0 m 7 ls []) := by
  obtain ⟨hx, hb, hml, hown, hts, hr, hlk, hE⟩ := id Cc
  induction n with
  | zero =>
    intro x1 x2 x3 x4 x5 ls hl h
    exact absurd h (fun z => z)
  | succ n hih7 =>
    intro x1 x2 x3 x4 x5 ls hl h
    have h : pX0_leastRest_7s σ (pX0_leastRest_7 σ Q n) Q x1 x2 x3 x4 x5 := h
    unfold pX0_leastRest_7s at h
    refine lv_iload hx hb dX0_leastRest_7 (lv_at hl 5 rfl) ?_
    refine lv_iload_n hx hb dX0_leastRest_9 rfl (lv_at hl 1 rfl) ?_
    refine lv_icmp_ge (tgt := 43) hx hb dX0_leastRest_10 (by decide) (fun c10 => ?_) (fun c10 => ?_)
    · have h := h.1 c10
      refine lv_iload hx hb dX0_leastRest_43 (lv_at hl 4 rfl) ?_
      exact W.iret (v := x4) hx hb hr (fun t ht _ => RQ.mk h ht) (fun _ h9 => by cases h9) dX0_leastRest_45 (hlocks := hlk)
    · have h := h.2 c10
      refine lv_iload_n hx hb dX0_leastRest_13 rfl (lv_at hl 2 rfl) ?_
      refine lv_iload hx hb dX0_leastRest_14 (lv_at hl 5 rfl) ?_
      refine lv_ishr hx hb dX0_leastRest_16 ?_
      refine lv_iconst (v := 1) hx hb dX0_leastRest_17 (by decide) ?_
      refine lv_iand hx hb dX0_leastRest_18 ?_
      refine lv_if_ne (tgt := 37) hx hb dX0_leastRest_19 (by decide) (fun c19 => ?_) (fun c19 => ?_)
      · have h := h.1 c19
        exact bX0_leastRest_37 Cc hPt hih7 x1 x2 x3 x4 x5  _ (lv_sub hl [0, 1, 2, 3, 4, 5] rfl) h
      · have h := h.2 c19
        refine lv_iload hx hb dX0_leastRest_22 (lv_at hl 4 rfl) ?_
        refine lv_aload_n hx hb dX0_leastRest_24 rfl (lv_at hl 0 rfl) ?_
        refine lv_iload_n hx hb dX0_leastRest_25 rfl (lv_at hl 2 rfl) ?_
        refine lv_iload_n hx hb dX0_leastRest_26 rfl (lv_at hl 3 rfl) ?_
        refine lv_iload hx hb dX0_leastRest_27 (lv_at hl 5 rfl) ?_
        refine kR (kV Cc (mX0_costOfNext l D κ a h) (qX0_costOfNext hts (tw_412 hts) ⟨(Nat.le_of_ble_eq_true rfl), (Nat.le_of_ble_eq_true rfl)⟩) (va_recv hE.1 hPt (ci := 0) (q0 := 0) rfl rfl) (rest := [.int x4]) hPt rfl hl.1 rfl (Nat.le_of_ble_eq_true rfl) dX0_leastRest_29 ⟨Nat.zero_le _, Nat.zero_le _⟩) (fun r29 h => ?_)
        refine va_mmin hx hb (hml.trans hl.1.symm) hown (tw_416 hts) (tw_417 hts) (tw_76 hts) (tw_418 hts) (Nat.le_of_ble_eq_true rfl) (Nat.le_of_ble_eq_true rfl) (Nat.zero_le _) (Nat.zero_le _) dX0_leastRest_32 ?_
        refine lv_topi (fun v32 e32 => ?_)
        have h := h v32 e32
        refine lv_istore (lv' := [(4, .int v32), (0, .ref (a 0)), (1, .int x1), (2, .int x2), (3, .int x3), (5, .int x5)]) hx hb dX0_leastRest_35 hl (by decide) rfl (fun ls hl => ?_)
        exact bX0_leastRest_37 Cc hPt hih7 x1 x2 x3 v32 x5  _ (lv_sub hl [1, 2, 3, 4, 0, 5] rfl) h
set_option maxHeartbeats 4000000 in
set_option maxRecDepth 100000 in
theorem mX0_leastRest (l : Launch) (D : va_G) (κ : Nat → ClassId) (a : Nat → Nat) {σ : Mx} {x1 : Int32} {x2 : Int32} {x3 : Int32} {Q : Int32 → Prop}  (h : pX0_leastRest σ x1 x2 x3 Q) : Met l yX0_leastRest (wz yX0_leastRest cX0_leastRest 6 (some .int)) rX0_leastRest (va_Pc [.ref (a 0), .int x1, .int x2, .int x3] (PE D κ (fun H => va_P D classes (wLy κ a σ) H))) (RQ Q) 0 0 (fun _ => False) := by
  refine Met_of l (own := RX0) (by decide) rfl (Nat.le_of_ble_eq_true rfl) (fun p e s m below meth c Cc hPP ls hl => ?_)
  obtain ⟨hx, hb, hml, hown, hts, hr, hlk, hE⟩ := id Cc
  have hl : lv_has ls 6 [(0, .ref (a 0)), (1, .int x1), (2, .int x2), (3, .int x3)] := hl
  have hPt := hPP
  unfold pX0_leastRest at h
  refine lv_ldc (own := RX0) (v := 1000000) hx hb hown (tw_411 hts) dX0_leastRest_0 ?_
  refine lv_istore (lv' := [(4, .int 1000000), (0, .ref (a 0)), (1, .int x1), (2, .int x2), (3, .int x3)]) hx hb dX0_leastRest_2 hl (by decide) rfl (fun ls hl => ?_)
  refine lv_iconst (v := 0) hx hb dX0_leastRest_4 (by decide) ?_
  refine lv_istore (lv' := [(5, .int 0), (4, .int 1000000), (0, .ref (a 0)), (1, .int x1), (2, .int x2), (3, .int x3)]) hx hb dX0_leastRest_5 hl (by decide) rfl (fun ls hl => ?_)
  obtain ⟨n, h⟩ := h
  exact bX0_leastRest_7 Cc hPt n x1 x2 x3 1000000 0  _ (lv_sub hl [2, 3, 4, 5, 1, 0] rfl) h
theorem qX0_leastRest {R : Room} {s : State} {args : Array Value} {own : String} {idx : Nat} (hts : ∀ w ∈ gG, w.before args s = true) (hl : (Cond.methodLink own idx yX0_leastRest).before args s = true) (hR : rX0_leastRest.frames + 1 ≤ R.frames ∧ 8 + (6 + 11) + rX0_leastRest.locals ≤ R.locals) : CallW R s args own RX0 idx yX0_leastRest cX0_leastRest 6 (some .int) (wz yX0_leastRest cX0_leastRest 6 (some .int)) rX0_leastRest 0 0 3 := ⟨kw 3 hts mw_410 rfl rfl (tw_72 hts) hl (by decide +kernel) hR, tw_409 hts, tw_3 hts⟩
abbrev rX0_fillRests : Room := { frames := 2, cells := 0, slots := 0, locals := 49 }
def pX0_fillRests_66 (ih8 : Int32 → Int32 → Int32 → Mx → Prop) (ih15 : Int32 → Int32 → Int32 → Int32 → Mx → Prop) (Q : Mx → Prop) (x1 : Int32) (x2 : Int32) (x3 : Int32) (x4 : Int32) (σ : Mx) : Prop := ih15 x1 x2 x3 (x4 + 1) σ
def pX0_fillRests_65 (ih8 : Int32 → Int32 → Int32 → Mx → Prop) (ih15 : Int32 → Int32 → Int32 → Int32 → Mx → Prop) (Q : Mx → Prop) (x1 : Int32) (x2 : Int32) (x3 : Int32) (x4 : Int32) (y0 : Int32) (y1 : Int32) (σ : Mx) : Prop := vp_in y1 2048 ∧ (pX0_fillRests_66 ih8 ih15 Q x1 x2 x3 x4 (st σ 3 y1.toNatClampNeg y0))
def pX0_fillRests_15s (ih8 : Int32 → Int32 → Int32 → Mx → Prop) (ih15 : Int32 → Int32 → Int32 → Int32 → Mx → Prop) (Q : Mx → Prop) (x1 : Int32) (x2 : Int32) (x3 : Int32) (x4 : Int32) (σ : Mx) : Prop := (x1 ≤ x4 → (ih8 x1 x2 (x3 + (-1)) σ)) ∧ (¬ x1 ≤ x4 → ((¬ ((x3 >>> (x4 &&& 31)) &&& 1) = 1 → (pX0_fillRests_66 ih8 ih15 Q x1 x2 x3 x4 σ)) ∧ (((x3 >>> (x4 &&& 31)) &&& 1) = 1 → ((¬ x3 = x2 → (pX0_leastRest σ x1 x3 x4 (fun r62 => (pX0_fillRests_65 ih8 ih15 Q x1 x2 x3 x4 r62 ((x3 * 8) + x4) σ)))) ∧ (x3 = x2 → (vp_in x4 8 ∧ (pX0_fillRests_65 ih8 ih15 Q x1 x2 x3 x4 (σ 2 x4.toNatClampNeg) ((x3 * 8) + x4) σ)))))))
noncomputable def pX0_fillRests_15 (ih8 : Int32 → Int32 → Int32 → Mx → Prop) (Q : Mx → Prop) (n : Nat) : Int32 → Int32 → Int32 → Int32 → Mx → Prop := Nat.rec (motive := fun _ => Int32 → Int32 → Int32 → Int32 → Mx → Prop) (fun _ _ _ _ _ => False) (fun _ ih => pX0_fillRests_15s ih8 ih Q) n
def pX0_fillRests_8s  (ih8 : Int32 → Int32 → Int32 → Mx → Prop) (Q : Mx → Prop) (x1 : Int32) (x2 : Int32) (x3 : Int32) (σ : Mx) : Prop := (x3 ≤ 0 → (Q σ)) ∧ (¬ x3 ≤ 0 → (∃ n, pX0_fillRests_15 ih8 Q n x1 x2 x3 0 σ))
noncomputable def pX0_fillRests_8 (Q : Mx → Prop) (n : Nat) : Int32 → Int32 → Int32 → Mx → Prop := Nat.rec (motive := fun _ => Int32 → Int32 → Int32 → Mx → Prop) (fun _ _ _ _ => False) (fun _ ih => pX0_fillRests_8s ih Q) n
def pX0_fillRests (σ : Mx) (x1 : Int32) (Q : Mx → Prop) : Prop := ∀ v5 : Int32, v5 = ((1 <<< (x1 &&& 31)) - 1) → (∃ n, pX0_fillRests_8 Q n x1 v5 v5 σ)
set_option maxHeartbeats 4000000 in
set_option maxRecDepth 100000 in
theorem bX0_fillRests_66 {p : Program} {l : Launch} {e : Env} {s : State} {m : MethodId} {args : Array Value} {below : List Frame} {meth : Method} {c : Code} {D : va_G} {κ : Nat → ClassId} {a : Nat → Nat}  {ih8 : Int32 → Int32 → Int32 → Mx → Prop} {ih15 : Int32 → Int32 → Int32 → Int32 → Mx → Prop} {Q : Mx → Prop} (Cc : Cx D κ RX0 cX0_fillRests 5 none p s m args meth c) (hIt : Ij a 5)  (hih8 : ∀ (x1 : Int32) (x2 : Int32) (x3 : Int32) (σ : Mx) (H : Heap) (locs : List Loc) (hPt : va_P D classes (wLy κ a σ) H) (hS : va_S (cA a 5) s.heap H locs) (ls : Array Slot) (hl : lv_has ls 5 [(0, .ref (a 0)), (1, .int x1), (2, .int x2), (3, .int x3)]) (h : ih8 x1 x2 x3 σ), W p l e rX0_fillRests s m args below meth c H locs 0 0 (MQ below (QWv Q (fun u H => va_P D classes (wLy κ a u) H) (cA a 5)) args s 0 0 (cA a 5)) (F0 m 8 ls [])) (hih15 : ∀ (x1 : Int32) (x2 : Int32) (x3 : Int32) (x4 : Int32) (σ : Mx) (H : Heap) (locs : List Loc) (hPt : va_P D classes (wLy κ a σ) H) (hS : va_S (cA a 5) s.heap H locs) (ls : Array Slot) (hl : lv_has ls 5 [(0, .ref (a 0)), (1, .int x1), (2, .int x2), (3, .int x3), (4, .int x4)]) (h : ih15 x1 x2 x3 x4 σ), W p l e rX0_fillRests s m args below meth c H locs 0 0 (MQ below (QWv Q (fun u H => va_P D classes (wLy κ a u) H) (cA a 5)) args s 0 0 (cA a 5)) (F0 m 15 ls [])) : ∀ (x1 : Int32) (x2 : Int32) (x3 : Int32) (x4 : Int32) (σ : Mx) (H : Heap) (locs : List Loc) (hPt : va_P D classes (wLy κ a σ) H) (hS : va_S (cA a 5) s.heap H locs) (ls : Array Slot) (hl : lv_has ls 5 [(0, .ref (a 0)), (1, .int x1), (2, .int x2), (3, .int x3), (4, .int x4)]) (h : pX0_fillRests_66 ih8 ih15 Q x1 x2 x3 x4 σ), W p l e rX0_fillRests s m args below meth c H locs 0 0 (MQ below (QWv Q (fun u H => va_P D classes (wLy κ a u) H) (cA a 5)) args s 0 0 (cA a 5)) (F0 m 66 ls []) := by
  obtain ⟨hx, hb, hml, hown, hts, hr, hlk, hE⟩ := id Cc
  intro x1 x2 x3 x4 σ H locs hPt hS ls hl h
  unfold pX0_fillRests_66 at h
  refine lv_iinc (v := (x4 + 1)) (lv' := [(4, .int (x4 + 1)), (0, .ref (a 0)), (1, .int x1), (2, .int x2), (3, .int x3)]) hx hb dX0_fillRests_66 hl (k := 4) rfl rfl (by decide) rfl (fun ls hl => ?_)
  refine lv_goto (tgt := 15) hx hb dX0_fillRests_69 (by decide) ?_
  exact hih15 x1 x2 x3 (x4 + 1) σ _ _ hPt hS _ (lv_sub hl [1, 2, 3, 4, 0] rfl) h
set_option maxHeartbeats 4000000 in
set_option maxRecDepth 100000 in
theorem bX0_fillRests_65 {p : Program} {l : Launch} {e : Env} {s : State} {m : MethodId} {args : Array Value} {below : List Frame} {meth : Method} {c : Code} {D : va_G} {κ : Nat → ClassId} {a : Nat → Nat}  {ih8 : Int32 → Int32 → Int32 → Mx → Prop} {ih15 : Int32 → Int32 → Int32 → Int32 → Mx → Prop} {Q : Mx → Prop} (Cc : Cx D κ RX0 cX0_fillRests 5 none p s m args meth c) (hIt : Ij a 5)  (hih8 : ∀ (x1 : Int32) (x2 : Int32) (x3 : Int32) (σ : Mx) (H : Heap) (locs : List Loc) (hPt : va_P D classes (wLy κ a σ) H) (hS : va_S (cA a 5) s.heap H locs) (ls : Array Slot) (hl : lv_has ls 5 [(0, .ref (a 0)), (1, .int x1), (2, .int x2), (3, .int x3)]) (h : ih8 x1 x2 x3 σ), W p l e rX0_fillRests s m args below meth c H locs 0 0 (MQ below (QWv Q (fun u H => va_P D classes (wLy κ a u) H) (cA a 5)) args s 0 0 (cA a 5)) (F0 m 8 ls [])) (hih15 : ∀ (x1 : Int32) (x2 : Int32) (x3 : Int32) (x4 : Int32) (σ : Mx) (H : Heap) (locs : List Loc) (hPt : va_P D classes (wLy κ a σ) H) (hS : va_S (cA a 5) s.heap H locs) (ls : Array Slot) (hl : lv_has ls 5 [(0, .ref (a 0)), (1, .int x1), (2, .int x2), (3, .int x3), (4, .int x4)]) (h : ih15 x1 x2 x3 x4 σ), W p l e rX0_fillRests s m args below meth c H locs 0 0 (MQ below (QWv Q (fun u H => va_P D classes (wLy κ a u) H) (cA a 5)) args s 0 0 (cA a 5)) (F0 m 15 ls [])) : ∀ (x1 : Int32) (x2 : Int32) (x3 : Int32) (x4 : Int32) (y0 : Int32) (y1 : Int32) (σ : Mx) (H : Heap) (locs : List Loc) (hPt : va_P D classes (wLy κ a σ) H) (hS : va_S (cA a 5) s.heap H locs) (ls : Array Slot) (hl : lv_has ls 5 [(0, .ref (a 0)), (1, .int x1), (2, .int x2), (3, .int x3), (4, .int x4)]) (h : pX0_fillRests_65 ih8 ih15 Q x1 x2 x3 x4 y0 y1 σ), W p l e rX0_fillRests s m args below meth c H locs 0 0 (MQ below (QWv Q (fun u H => va_P D classes (wLy κ a u) H) (cA a 5)) args s 0 0 (cA a 5)) (F0 m 65 ls [.int y0, .int y1, .ref (a 4)]) := by
  obtain ⟨hx, hb, hml, hown, hts, hr, hlk, hE⟩ := id Cc
  intro x1 x2 x3 x4 y0 y1 σ H locs hPt hS ls hl h
  unfold pX0_fillRests_65 at h
  refine sLy_3 Cc hPt hIt hS ⟨4, by decide, rfl⟩ h.1 dX0_fillRests_65 (fun H1 locs1 hB hS1 hk => ?_)
  have h := h.2
  have hPt := hB
  have hS := hS1
  exact bX0_fillRests_66 Cc hIt hih8 hih15 x1 x2 x3 x4 (st σ 3 y1.toNatClampNeg y0) _ _ hPt hS _ (lv_sub hl [0, 1, 2, 3, 4] rfl) h
set_option maxHeartbeats 4000000 in
set_option maxRecDepth 100000 in
theorem bX0_fillRests_15 {p : Program} {l : Launch} {e : Env} {s : State} {m : MethodId} {args : Array Value} {below : List Frame} {meth : Method} {c : Code} {D : va_G} {κ : Nat → ClassId} {a : Nat → Nat}  {ih8 : Int32 → Int32 → Int32 → Mx → Prop} {Q : Mx → Prop} (Cc : Cx D κ RX0 cX0_fillRests 5 none p s m args meth c) (hIt : Ij a 5)  (hih8 : ∀ (x1 : Int32) (x2 : Int32) (x3 : Int32) (σ : Mx) (H : Heap) (locs : List Loc) (hPt : va_P D classes (wLy κ a σ) H) (hS : va_S (cA a 5) s.heap H locs) (ls : Array Slot) (hl : lv_has ls 5 [(0, .ref (a 0)), (1, .int x1), (2, .int x2), (3, .int x3)]) (h : ih8 x1 x2 x3 σ), W p l e rX0_fillRests s m args below meth c H locs 0 0 (MQ below (QWv Q (fun u H => va_P D classes (wLy κ a u) H) (cA a 5)) args s 0 0 (cA a 5)) (F0 m 8 ls [])) (n : Nat) : ∀ (x1 : Int32) (x2 : Int32) (x3 : Int32) (x4 : Int32) (σ : Mx) (H : Heap) (locs : List Loc) (hPt : va_P D classes (wLy κ a σ) H) (hS : va_S (cA a 5) s.heap H locs) (ls : Array Slot) (hl : lv_has ls 5 [(0, .ref (a 0)), (1, .int x1), (2, .int x2), (3, .int x3), (4, .int x4)]) (h : pX0_fillRests_15 ih8 Q n x1 x2 x3 x4 σ), W p l e rX0_fillRests s m args below meth c H locs 0 0 (MQ below (QWv Q (fun u H => va_P D classes (wLy κ a u) H) (cA a 5)) args s 0 0 (cA a 5)) (F0 m 15 ls []) := by
  obtain ⟨hx, hb, hml, hown, hts, hr, hlk, hE⟩ := id Cc
  induction n with
  | zero =>
    intro x1 x2 x3 x4 σ H locs hPt hS ls hl h
    exact absurd h (fun z => z)
  | succ n hih15 =>
    intro x1 x2 x3 x4 σ H locs hPt hS ls hl h
    have h : pX0_fillRests_15s ih8 (pX0_fillRests_15 ih8 Q n) Q x1 x2 x3 x4 σ := h
    unfold pX0_fillRests_15s at h
    refine lv_iload hx hb dX0_fillRests_15 (lv_at hl 4 rfl) ?_
    refine lv_iload_n hx hb dX0_fillRests_17 rfl (lv_at hl 1 rfl) ?_
    refine lv_icmp_ge (tgt := 72) hx hb dX0_fillRests_18 (by decide) (fun c18 => ?_) (fun c18 => ?_)
    · have h := h.1 c18
      refine lv_iinc (v := (x3 + (-1))) (lv' := [(3, .int (x3 + (-1))), (0, .ref (a 0)), (1, .int x1), (2, .int x2), (4, .int x4)]) hx hb dX0_fillRests_72 hl (k := 3) rfl rfl (by decide) rfl (fun ls hl => ?_)
      refine lv_goto (tgt := 8) hx hb dX0_fillRests_75 (by decide) ?_
      exact hih8 x1 x2 (x3 + (-1)) σ _ _ hPt hS _ (lv_sub hl [1, 2, 3, 0] rfl) h
    · have h := h.2 c18
      refine lv_iload_n hx hb dX0_fillRests_21 rfl (lv_at hl 3 rfl) ?_
      refine lv_iload hx hb dX0_fillRests_22 (lv_at hl 4 rfl) ?_
      refine lv_ishr hx hb dX0_fillRests_24 ?_
      refine lv_iconst (v := 1) hx hb dX0_fillRests_25 (by decide) ?_
      refine lv_iand hx hb dX0_fillRests_26 ?_
      refine lv_iconst (v := 1) hx hb dX0_fillRests_27 (by decide) ?_
      refine lv_icmp_ne (tgt := 66) hx hb dX0_fillRests_28 (by decide) (fun c28 => ?_) (fun c28 => ?_)
      · have h := h.1 c28
        exact bX0_fillRests_66 Cc hIt hih8 hih15 x1 x2 x3 x4 σ _ _ hPt hS _ (lv_sub hl [0, 1, 2, 3, 4] rfl) h
      · have h := h.2 c28
        refine lv_aload_n hx hb dX0_fillRests_31 rfl (lv_at hl 0 rfl) ?_
        refine gLy_3 Cc hPt (tw_156 hts) dX0_fillRests_32 ?_
        refine lv_iload_n hx hb dX0_fillRests_35 rfl (lv_at hl 3 rfl) ?_
        refine lv_bipush (v := 8) hx hb dX0_fillRests_36 (by decide) ?_
        refine lv_imul hx hb dX0_fillRests_38 ?_
        refine lv_iload hx hb dX0_fillRests_39 (lv_at hl 4 rfl) ?_
        refine lv_iadd hx hb dX0_fillRests_41 ?_
        refine lv_iload_n hx hb dX0_fillRests_42 rfl (lv_at hl 3 rfl) ?_
        refine lv_iload_n hx hb dX0_fillRests_43 rfl (lv_at hl 2 rfl) ?_
        refine lv_icmp_ne (tgt := 57) hx hb dX0_fillRests_44 (by decide) (fun c44 => ?_) (fun c44 => ?_)
        · have h := h.1 c44
          refine lv_aload_n hx hb dX0_fillRests_57 rfl (lv_at hl 0 rfl) ?_
          refine lv_iload_n hx hb dX0_fillRests_58 rfl (lv_at hl 1 rfl) ?_
          refine lv_iload_n hx hb dX0_fillRests_59 rfl (lv_at hl 3 rfl) ?_
          refine lv_iload hx hb dX0_fillRests_60 (lv_at hl 4 rfl) ?_
          refine kR (kV Cc (mX0_leastRest l D κ a h) (qX0_leastRest hts (tw_407 hts) ⟨(Nat.le_of_ble_eq_true rfl), (Nat.le_of_ble_eq_true rfl)⟩) (va_recv hE.1 hPt (ci := 0) (q0 := 0) rfl rfl) (rest := [.int ((x3 * 8) + x4), .ref (a 4)]) hPt rfl hl.1 rfl (Nat.le_of_ble_eq_true rfl) dX0_fillRests_62 ⟨Nat.zero_le _, Nat.zero_le _⟩) (fun r62 h => ?_)
          exact bX0_fillRests_65 Cc hIt hih8 hih15 x1 x2 x3 x4 r62 ((x3 * 8) + x4) σ _ _ hPt hS _ (lv_sub hl [0, 1, 2, 3, 4] rfl) h
        · have h := h.2 c44
          refine lv_aload_n hx hb dX0_fillRests_47 rfl (lv_at hl 0 rfl) ?_
          refine gLy_2 Cc hPt (tw_155 hts) dX0_fillRests_48 ?_
          refine lv_iload hx hb dX0_fillRests_51 (lv_at hl 4 rfl) ?_
          refine lLy_2 Cc hPt h.1 dX0_fillRests_53 ?_
          have h := h.2
          refine lv_goto (tgt := 65) hx hb dX0_fillRests_54 (by decide) ?_
          exact bX0_fillRests_65 Cc hIt hih8 hih15 x1 x2 x3 x4 (σ 2 x4.toNatClampNeg) ((x3 * 8) + x4) σ _ _ hPt hS _ (lv_sub hl [0, 1, 2, 3, 4] rfl) h
set_option maxHeartbeats 4000000 in
set_option maxRecDepth 100000 in
theorem bX0_fillRests_8 {p : Program} {l : Launch} {e : Env} {s : State} {m : MethodId} {args : Array Value} {below : List Frame} {meth : Method} {c : Code} {D : va_G} {κ : Nat → ClassId} {a : Nat → Nat}   {Q : Mx → Prop} (Cc : Cx D κ RX0 cX0_fillRests 5 none p s m args meth c) (hIt : Ij a 5)   (n : Nat) : ∀ (x1 : Int32) (x2 : Int32) (x3 : Int32) (σ : Mx) (H : Heap) (locs : List Loc) (hPt : va_P D classes (wLy κ a σ) H) (hS : va_S (cA a 5) s.heap H locs) (ls : Array Slot) (hl : lv_has ls 5 [(0, .ref (a 0)), (1, .int x1), (2, .int x2), (3, .int x3)]) (h : pX0_fillRests_8 Q n x1 x2 x3 σ), W p l e rX0_fillRests s m args below meth c H locs 0 0 (MQ below (QWv Q (fun u H => va_P D classes (wLy κ a u) H) (cA a 5)) args s 0 0 (cA a 5)) (F0 m 8 ls []) := by
  obtain ⟨hx, hb, hml, hown, hts, hr, hlk, hE⟩ := id Cc
  induction n with
  | zero =>
    intro x1 x2 x3 σ H locs hPt hS ls hl h
    exact absurd h (fun z => z)
  | succ n hih8 =>
    intro x1 x2 x3 σ H locs hPt hS ls hl h
    have h : pX0_fillRests_8s (pX0_fillRests_8 Q n) Q x1 x2 x3 σ := h
    unfold pX0_fillRests_8s at h
    refine lv_iload_n hx hb dX0_fillRests_8 rfl (lv_at hl 3 rfl) ?_
    refine lv_if_le (tgt := 78) hx hb dX0_fillRests_9 (by decide) (fun c9 => ?_) (fun c9 => ?_)
    · have h := h.1 c9
      exact W.vret hx hb hr (fun t ht _ => QWv.mk (u := σ) h hPt hS ht) hS.2.2 dX0_fillRests_78 (hlocks := hlk)
    · have h := h.2 c9
      refine lv_iconst (v := 0) hx hb dX0_fillRests_12 (by decide) ?_
      refine lv_istore (lv' := [(4, .int 0), (0, .ref (a 0)), (1, .int x1), (2, .int x2), (3, .int x3)]) hx hb dX0_fillRests_13 hl (by decide) rfl (fun ls hl => ?_)
      obtain ⟨n, h⟩ := h
      exact bX0_fillRests_15 Cc hIt hih8 n x1 x2 x3 0 σ _ _ hPt hS _ (lv_sub hl [1, 2, 3, 4, 0] rfl) h
set_option maxHeartbeats 4000000 in
set_option maxRecDepth 100000 in
theorem mX0_fillRests (l : Launch) (D : va_G) (κ : Nat → ClassId) (a : Nat → Nat) {σ : Mx} {x1 : Int32} {Q : Mx → Prop} (hIt : Ij a 5) (h : pX0_fillRests σ x1 Q) : Met l yX0_fillRests (wz yX0_fillRests cX0_fillRests 5 none) rX0_fillRests (va_Pc [.ref (a 0), .int x1] (PE D κ (fun H => va_P D classes (wLy κ a σ) H))) (QWv Q (fun u H => va_P D classes (wLy κ a u) H) (cA a 5)) 0 0 (cA a 5) := by
  refine Met_of l (own := RX0) (by decide) rfl (Nat.le_of_ble_eq_true rfl) (fun p e s m below meth c Cc hPP ls hl => ?_)
  obtain ⟨hx, hb, hml, hown, hts, hr, hlk, hE⟩ := id Cc
  have hl : lv_has ls 5 [(0, .ref (a 0)), (1, .int x1)] := hl
  have hPt := hPP
  have hS : va_S (cA a 5) s.heap s.heap [] := va_S.rf
  unfold pX0_fillRests at h
  refine lv_iconst (v := 1) hx hb dX0_fillRests_0 (by decide) ?_
  refine lv_iload_n hx hb dX0_fillRests_1 rfl (lv_at hl 1 rfl) ?_
  refine lv_ishl hx hb dX0_fillRests_2 ?_
  refine lv_iconst (v := 1) hx hb dX0_fillRests_3 (by decide) ?_
  refine lv_isub hx hb dX0_fillRests_4 ?_
  refine lv_topi (fun v5 e5 => ?_)
  have h := h v5 e5
  refine lv_istore_n (lv' := [(2, .int v5), (0, .ref (a 0)), (1, .int x1)]) hx hb dX0_fillRests_5 rfl hl (by decide) rfl (fun ls hl => ?_)
  refine lv_iload_n hx hb dX0_fillRests_6 rfl (lv_at hl 0 rfl) ?_
  refine lv_istore_n (lv' := [(3, .int v5), (2, .int v5), (0, .ref (a 0)), (1, .int x1)]) hx hb dX0_fillRests_7 rfl hl (by decide) rfl (fun ls hl => ?_)
  obtain ⟨n, h⟩ := h
  exact bX0_fillRests_8 Cc hIt n x1 v5 v5 σ _ _ hPt hS _ (lv_sub hl [2, 3, 1, 0] rfl) h
theorem qX0_fillRests {R : Room} {s : State} {args : Array Value} {own : String} {idx : Nat} (hts : ∀ w ∈ gG, w.before args s = true) (hl : (Cond.methodLink own idx yX0_fillRests).before args s = true) (hR : rX0_fillRests.frames + 1 ≤ R.frames ∧ 8 + (5 + 11) + rX0_fillRests.locals ≤ R.locals) : CallW R s args own RX0 idx yX0_fillRests cX0_fillRests 5 none (wz yX0_fillRests cX0_fillRests 5 none) rX0_fillRests 0 0 1 := ⟨kw 1 hts mw_406 rfl rfl (tw_72 hts) hl (by decide +kernel) hR, tw_405 hts, tw_2 hts⟩
abbrev rX0_bestNext : Room := { frames := 1, cells := 0, slots := 0, locals := 24 }
def pX0_bestNext_50 (σ : Mx) (ih10 : Int32 → Int32 → Int32 → Int32 → Int32 → Int32 → Prop) (Q : Int32 → Prop) (x1 : Int32) (x2 : Int32) (x3 : Int32) (x4 : Int32) (x5 : Int32) (x6 : Int32) : Prop := ih10 x1 x2 x3 x4 x5 (x6 + 1)
def pX0_bestNext_10s (σ : Mx) (ih10 : Int32 → Int32 → Int32 → Int32 → Int32 → Int32 → Prop) (Q : Int32 → Prop) (x1 : Int32) (x2 : Int32) (x3 : Int32) (x4 : Int32) (x5 : Int32) (x6 : Int32) : Prop := (x1 ≤ x6 → (Q x5)) ∧ (¬ x1 ≤ x6 → ((¬ ((x2 >>> (x6 &&& 31)) &&& 1) = 0 → (pX0_bestNext_50 σ ih10 Q x1 x2 x3 x4 x5 x6)) ∧ (((x2 >>> (x6 &&& 31)) &&& 1) = 0 → (pX0_costOfNext σ x2 x3 x6 (fun r30 => ((x4 ≤ r30 → (pX0_bestNext_50 σ ih10 Q x1 x2 x3 x4 x5 x6)) ∧ (¬ x4 ≤ r30 → (pX0_bestNext_50 σ ih10 Q x1 x2 x3 r30 x6 x6))))))))
noncomputable def pX0_bestNext_10 (σ : Mx) (Q : Int32 → Prop) (n : Nat) : Int32 → Int32 → Int32 → Int32 → Int32 → Int32 → Prop := Nat.rec (motive := fun _ => Int32 → Int32 → Int32 → Int32 → Int32 → Int32 → Prop) (fun _ _ _ _ _ _ => False) (fun _ ih => pX0_bestNext_10s σ ih Q) n
def pX0_bestNext (σ : Mx) (x1 : Int32) (x2 : Int32) (x3 : Int32) (Q : Int32 → Prop) : Prop := ∃ n, pX0_bestNext_10 σ Q n x1 x2 x3 1000000 0 0
set_option maxHeartbeats 4000000 in
set_option maxRecDepth 100000 in
theorem bX0_bestNext_50 {p : Program} {l : Launch} {e : Env} {s : State} {m : MethodId} {args : Array Value} {below : List Frame} {meth : Method} {c : Code} {D : va_G} {κ : Nat → ClassId} {a : Nat → Nat} {σ : Mx} {ih10 : Int32 → Int32 → Int32 → Int32 → Int32 → Int32 → Prop} {Q : Int32 → Prop} (Cc : Cx D κ RX0 cX0_bestNext 8 (some .int) p s m args meth c)  (hPt : va_P D classes (wLy κ a σ) s.heap) (hih10 : ∀ (x1 : Int32) (x2 : Int32) (x3 : Int32) (x4 : Int32) (x5 : Int32) (x6 : Int32) (ls : Array Slot) (hl : lv_has ls 8 [(0, .ref (a 0)), (1, .int x1), (2, .int x2), (3, .int x3), (4, .int x4), (5, .int x5), (6, .int x6)]) (h : ih10 x1 x2 x3 x4 x5 x6), W p l e rX0_bestNext s m args below meth c s.heap [] 0 0 (MQ below (RQ Q) args s 0 0 (fun _ => False)) (F0 m 10 ls [])) : ∀ (x1 : Int32) (x2 : Int32) (x3 : Int32) (x4 : Int32) (x5 : Int32) (x6 : Int32) (ls : Array Slot) (hl : lv_has ls 8 [(0, .ref (a 0)), (1, .int x1), (2, .int x2), (3, .int x3), (4, .int x4), (5, .int x5), (6, .int x6)]) (h : pX0_bestNext_50 σ ih10 Q x1 x2 x3 x4 x5 x6), W p l e rX0_bestNext s m args below meth c s.heap [] 0 0 (MQ below (RQ Q) args s 0 0 (fun _ => False)) (F0 m 50 ls []) := by
  obtain ⟨hx, hb, hml, hown, hts, hr, hlk, hE⟩ := id Cc
  intro x1 x2 x3 x4 x5 x6 ls hl h
  unfold pX0_bestNext_50 at h
  refine lv_iinc (v := (x6 + 1)) (lv' := [(6, .int (x6 + 1)), (0, .ref (a 0)), (1, .int x1), (2, .int x2), (3, .int x3), (4, .int x4), (5, .int x5)]) hx hb dX0_bestNext_50 hl (k := 6) rfl rfl (by decide) rfl (fun ls hl => ?_)
  refine lv_goto (tgt := 10) hx hb dX0_bestNext_53 (by decide) ?_
  exact hih10 x1 x2 x3 x4 x5 (x6 + 1)  _ (lv_sub hl [1, 2, 3, 4, 5, 6, 0] rfl) h
set_option maxHeartbeats 4000000 in
set_option maxRecDepth 100000 in
theorem bX0_bestNext_10 {p : Program} {l : Launch} {e : Env} {s : State} {m : MethodId} {args : Array Value} {below : List Frame} {meth : Method} {c : Code} {D : va_G} {κ : Nat → ClassId} {a : Nat → Nat} {σ : Mx}  {Q : Int32 → Prop} (Cc : Cx D κ RX0 cX0_bestNext 8 (some .int) p s m args meth c)  (hPt : va_P D classes (wLy κ a σ) s.heap)  (n : Nat) : ∀ (x1 : Int32) (x2 : Int32) (x3 : Int32) (x4 : Int32) (x5 : Int32) (x6 : Int32) (ls : Array Slot) (hl : lv_has ls 8 [(0, .ref (a 0)), (1, .int x1), (2, .int x2), (3, .int x3), (4, .int x4), (5, .int x5), (6, .int x6)]) (h : pX0_bestNext_10 σ Q n x1 x2 x3 x4 x5 x6), W p l e rX0_bestNext s m args below meth c s.heap [] 0 0 (MQ below (RQ Q) args s 0 0 (fun _ => False)) (F0 m 10 ls []) := by
  obtain ⟨hx, hb, hml, hown, hts, hr, hlk, hE⟩ := id Cc
  induction n with
  | zero =>
    intro x1 x2 x3 x4 x5 x6 ls hl h
    exact absurd h (fun z => z)
  | succ n hih10 =>
    intro x1 x2 x3 x4 x5 x6 ls hl h
    have h : pX0_bestNext_10s σ (pX0_bestNext_10 σ Q n) Q x1 x2 x3 x4 x5 x6 := h
    unfold pX0_bestNext_10s at h
    refine lv_iload hx hb dX0_bestNext_10 (lv_at hl 6 rfl) ?_
    refine lv_iload_n hx hb dX0_bestNext_12 rfl (lv_at hl 1 rfl) ?_
    refine lv_icmp_ge (tgt := 56) hx hb dX0_bestNext_13 (by decide) (fun c13 => ?_) (fun c13 => ?_)
    · have h := h.1 c13
      refine lv_iload hx hb dX0_bestNext_56 (lv_at hl 5 rfl) ?_
      exact W.iret (v := x5) hx hb hr (fun t ht _ => RQ.mk h ht) (fun _ h9 => by cases h9) dX0_bestNext_58 (hlocks := hlk)
    · have h := h.2 c13
      refine lv_iload_n hx hb dX0_bestNext_16 rfl (lv_at hl 2 rfl) ?_
      refine lv_iload hx hb dX0_bestNext_17 (lv_at hl 6 rfl) ?_
      refine lv_ishr hx hb dX0_bestNext_19 ?_
      refine lv_iconst (v := 1) hx hb dX0_bestNext_20 (by decide) ?_
      refine lv_iand hx hb dX0_bestNext_21 ?_
      refine lv_if_ne (tgt := 50) hx hb dX0_bestNext_22 (by decide) (fun c22 => ?_) (fun c22 => ?_)
      · have h := h.1 c22
        exact bX0_bestNext_50 Cc hPt hih10 x1 x2 x3 x4 x5 x6  _ (lv_sub hl [0, 1, 2, 3, 4, 5, 6] rfl) h
      · have h := h.2 c22
        refine lv_aload_n hx hb dX0_bestNext_25 rfl (lv_at hl 0 rfl) ?_
        refine lv_iload_n hx hb dX0_bestNext_26 rfl (lv_at hl 2 rfl) ?_
        refine lv_iload_n hx hb dX0_bestNext_27 rfl (lv_at hl 3 rfl) ?_
        refine lv_iload hx hb dX0_bestNext_28 (lv_at hl 6 rfl) ?_
        refine kR (kV Cc (mX0_costOfNext l D κ a h) (qX0_costOfNext hts (tw_412 hts) ⟨(Nat.le_of_ble_eq_true rfl), (Nat.le_of_ble_eq_true rfl)⟩) (va_recv hE.1 hPt (ci := 0) (q0 := 0) rfl rfl) (rest := []) hPt rfl hl.1 rfl (Nat.le_of_ble_eq_true rfl) dX0_bestNext_30 ⟨Nat.zero_le _, Nat.zero_le _⟩) (fun r30 h => ?_)
        refine lv_istore (lv' := [(7, .int r30), (0, .ref (a 0)), (1, .int x1), (2, .int x2), (3, .int x3), (4, .int x4), (5, .int x5), (6, .int x6)]) hx hb dX0_bestNext_33 hl (by decide) rfl (fun ls hl => ?_)
        refine lv_iload hx hb dX0_bestNext_35 (lv_at hl 0 rfl) ?_
        refine lv_iload hx hb dX0_bestNext_37 (lv_at hl 5 rfl) ?_
        refine lv_icmp_ge (tgt := 50) hx hb dX0_bestNext_39 (by decide) (fun c39 => ?_) (fun c39 => ?_)
        · have h := h.1 c39
          exact bX0_bestNext_50 Cc hPt hih10 x1 x2 x3 x4 x5 x6  _ (lv_sub hl [1, 2, 3, 4, 5, 6, 7] rfl) h
        · have h := h.2 c39
          refine lv_iload hx hb dX0_bestNext_42 (lv_at hl 0 rfl) ?_
          refine lv_istore (lv' := [(4, .int r30), (7, .int r30), (0, .ref (a 0)), (1, .int x1), (2, .int x2), (3, .int x3), (5, .int x5), (6, .int x6)]) hx hb dX0_bestNext_44 hl (by decide) rfl (fun ls hl => ?_)
          refine lv_iload hx hb dX0_bestNext_46 (lv_at hl 7 rfl) ?_
          refine lv_istore (lv' := [(5, .int x6), (4, .int r30), (7, .int r30), (0, .ref (a 0)), (1, .int x1), (2, .int x2), (3, .int x3), (6, .int x6)]) hx hb dX0_bestNext_48 hl (by decide) rfl (fun ls hl => ?_)
          exact bX0_bestNext_50 Cc hPt hih10 x1 x2 x3 r30 x6 x6  _ (lv_sub hl [3, 4, 5, 6, 1, 0, 7] rfl) h
set_option maxHeartbeats 4000000 in
set_option maxRecDepth 100000 in
theorem mX0_bestNext (l : Launch) (D : va_G) (κ : Nat → ClassId) (a : Nat → Nat) {σ : Mx} {x1 : Int32} {x2 : Int32} {x3 : Int32} {Q : Int32 → Prop}  (h : pX0_bestNext σ x1 x2 x3 Q) : Met l yX0_bestNext (wz yX0_bestNext cX0_bestNext 8 (some .int)) rX0_bestNext (va_Pc [.ref (a 0), .int x1, .int x2, .int x3] (PE D κ (fun H => va_P D classes (wLy κ a σ) H))) (RQ Q) 0 0 (fun _ => False) := by
  refine Met_of l (own := RX0) (by decide) rfl (Nat.le_of_ble_eq_true rfl) (fun p e s m below meth c Cc hPP ls hl => ?_)
  obtain ⟨hx, hb, hml, hown, hts, hr, hlk, hE⟩ := id Cc
  have hl : lv_has ls 8 [(0, .ref (a 0)), (1, .int x1), (2, .int x2), (3, .int x3)] := hl
  have hPt := hPP
  unfold pX0_bestNext at h
  refine lv_ldc (own := RX0) (v := 1000000) hx hb hown (tw_411 hts) dX0_bestNext_0 ?_
  refine lv_istore (lv' := [(4, .int 1000000), (0, .ref (a 0)), (1, .int x1), (2, .int x2), (3, .int x3)]) hx hb dX0_bestNext_2 hl (by decide) rfl (fun ls hl => ?_)
  refine lv_iconst (v := 0) hx hb dX0_bestNext_4 (by decide) ?_
  refine lv_istore (lv' := [(5, .int 0), (4, .int 1000000), (0, .ref (a 0)), (1, .int x1), (2, .int x2), (3, .int x3)]) hx hb dX0_bestNext_5 hl (by decide) rfl (fun ls hl => ?_)
  refine lv_iconst (v := 0) hx hb dX0_bestNext_7 (by decide) ?_
  refine lv_istore (lv' := [(6, .int 0), (5, .int 0), (4, .int 1000000), (0, .ref (a 0)), (1, .int x1), (2, .int x2), (3, .int x3)]) hx hb dX0_bestNext_8 hl (by decide) rfl (fun ls hl => ?_)
  obtain ⟨n, h⟩ := h
  exact bX0_bestNext_10 Cc hPt n x1 x2 x3 1000000 0 0  _ (lv_sub hl [3, 4, 5, 6, 2, 1, 0] rfl) h
theorem qX0_bestNext {R : Room} {s : State} {args : Array Value} {own : String} {idx : Nat} (hts : ∀ w ∈ gG, w.before args s = true) (hl : (Cond.methodLink own idx yX0_bestNext).before args s = true) (hR : rX0_bestNext.frames + 1 ≤ R.frames ∧ 8 + (8 + 11) + rX0_bestNext.locals ≤ R.locals) : CallW R s args own RX0 idx yX0_bestNext cX0_bestNext 8 (some .int) (wz yX0_bestNext cX0_bestNext 8 (some .int)) rX0_bestNext 0 0 3 := ⟨kw 3 hts mw_422 rfl rfl (tw_72 hts) hl (by decide +kernel) hR, tw_421 hts, tw_5 hts⟩
abbrev rX0_leastSum : Room := { frames := 3, cells := 0, slots := 0, locals := 73 }
def pX0_leastSum (σ : Mx) (σ2 : Mx)  (Q : Int32 → Mx → Prop) : Prop := (¬ (σ2 8 0) = 0 → (pX0_weigh σ σ2 (fun u11 => (pX0_fillRests u11 (σ2 8 0) (fun u19 => (pX0_bestNext u19 (σ2 8 0) 0 (-1) (fun r29 => (pX0_costOfNext u19 0 (-1) r29 (fun r37 => (Q r37 u19)))))))))) ∧ ((σ2 8 0) = 0 → (Q 0 σ))
set_option maxHeartbeats 4000000 in
set_option maxRecDepth 100000 in
theorem mX0_leastSum (l : Launch) (D : va_G) (κ : Nat → ClassId) (a : Nat → Nat) (a2 : Nat → Nat) {σ : Mx} {σ2 : Mx}  {Q : Int32 → Mx → Prop} (hIt : Ij a 5) (hDj : Dj a 5 a2 8) (h : pX0_leastSum σ σ2  Q) : Met l yX0_leastSum (wz yX0_leastSum cX0_leastSum 3 (some .int)) rX0_leastSum (va_Pc [.ref (a 0), .ref (a2 0)] (PE D κ (fun H => va_P D classes (wLy κ a σ) H ∧ va_P D classes (wCo κ a2 σ2) H))) (QWi Q (fun u H => va_P D classes (wLy κ a u) H) (cA a 5)) 0 0 (cA a 5) := by
  refine Met_of l (own := RX0) (by decide) rfl (Nat.le_of_ble_eq_true rfl) (fun p e s m below meth c Cc hPP ls hl => ?_)
  obtain ⟨hx, hb, hml, hown, hts, hr, hlk, hE⟩ := id Cc
  have hl : lv_has ls 3 [(0, .ref (a 0)), (1, .ref (a2 0))] := hl
  obtain ⟨hPt, hPu⟩ := hPP
  have hS : va_S (cA a 5) s.heap s.heap [] := va_S.rf
  unfold pX0_leastSum at h
  refine lv_aload_n hx hb dX0_leastSum_0 rfl (lv_at hl 1 rfl) ?_
  refine gCo_8 Cc hPu (tw_115 hts) dX0_leastSum_1 ?_
  refine lv_if_ne (tgt := 9) hx hb dX0_leastSum_4 (by decide) (fun c4 => ?_) (fun c4 => ?_)
  · have h := h.1 c4
    refine lv_aload_n hx hb dX0_leastSum_9 rfl (lv_at hl 0 rfl) ?_
    refine lv_aload_n hx hb dX0_leastSum_10 rfl (lv_at hl 1 rfl) ?_
    refine kWv (kV Cc (mX0_weigh l D κ a a2 hIt hDj h) (qX0_weigh hts (tw_397 hts) ⟨(Nat.le_of_ble_eq_true rfl), (Nat.le_of_ble_eq_true rfl)⟩) (va_recv hE.1 hPt (ci := 0) (q0 := 0) rfl rfl) (rest := []) ⟨hPt, hPu⟩ rfl hl.1 rfl (Nat.le_of_ble_eq_true rfl) dX0_leastSum_11 ⟨Nat.zero_le _, Nat.zero_le _⟩) hS (fun q h9 => h9) (fun  u11 H1 locs1 h hB hk hS1 => ?_)
    have hPu := kpF wCo_wl hPu hDj hk
    have hPt := hB
    have hS := hS1
    refine lv_aload_n hx hb dX0_leastSum_14 rfl (lv_at hl 0 rfl) ?_
    refine lv_aload_n hx hb dX0_leastSum_15 rfl (lv_at hl 1 rfl) ?_
    refine gCo_8 Cc hPu (tw_115 hts) dX0_leastSum_16 ?_
    refine kWv (kV Cc (mX0_fillRests l D κ a hIt h) (qX0_fillRests hts (tw_403 hts) ⟨(Nat.le_of_ble_eq_true rfl), (Nat.le_of_ble_eq_true rfl)⟩) (va_recv hE.1 hPt (ci := 0) (q0 := 0) rfl rfl) (rest := []) hPt rfl hl.1 rfl (Nat.le_of_ble_eq_true rfl) dX0_leastSum_19 ⟨Nat.zero_le _, Nat.zero_le _⟩) hS (fun q h9 => h9) (fun  u19 H1 locs1 h hB hk hS1 => ?_)
    have hPu := kpF wCo_wl hPu hDj hk
    have hPt := hB
    have hS := hS1
    refine lv_aload_n hx hb dX0_leastSum_22 rfl (lv_at hl 0 rfl) ?_
    refine lv_aload_n hx hb dX0_leastSum_23 rfl (lv_at hl 1 rfl) ?_
    refine gCo_8 Cc hPu (tw_115 hts) dX0_leastSum_24 ?_
    refine lv_iconst (v := 0) hx hb dX0_leastSum_27 (by decide) ?_
    refine lv_iconst (v := (-1)) hx hb dX0_leastSum_28 (by decide) ?_
    refine kR (kV Cc (mX0_bestNext l D κ a h) (qX0_bestNext hts (tw_419 hts) ⟨(Nat.le_of_ble_eq_true rfl), (Nat.le_of_ble_eq_true rfl)⟩) (va_recv hE.1 hPt (ci := 0) (q0 := 0) rfl rfl) (rest := []) hPt rfl hl.1 rfl (Nat.le_of_ble_eq_true rfl) dX0_leastSum_29 ⟨Nat.zero_le _, Nat.zero_le _⟩) (fun r29 h => ?_)
    refine lv_istore_n (lv' := [(2, .int r29), (0, .ref (a 0)), (1, .ref (a2 0))]) hx hb dX0_leastSum_32 rfl hl (by decide) rfl (fun ls hl => ?_)
    refine lv_aload_n hx hb dX0_leastSum_33 rfl (lv_at hl 1 rfl) ?_
    refine lv_iconst (v := 0) hx hb dX0_leastSum_34 (by decide) ?_
    refine lv_iconst (v := (-1)) hx hb dX0_leastSum_35 (by decide) ?_
    refine lv_iload_n hx hb dX0_leastSum_36 rfl (lv_at hl 0 rfl) ?_
    refine kR (kV Cc (mX0_costOfNext l D κ a h) (qX0_costOfNext hts (tw_412 hts) ⟨(Nat.le_of_ble_eq_true rfl), (Nat.le_of_ble_eq_true rfl)⟩) (va_recv hE.1 hPt (ci := 0) (q0 := 0) rfl rfl) (rest := []) hPt rfl hl.1 rfl (Nat.le_of_ble_eq_true rfl) dX0_leastSum_37 ⟨Nat.zero_le _, Nat.zero_le _⟩) (fun r37 h => ?_)
    exact W.iret (v := r37) hx hb hr (fun t ht _ => QWi.mk (u := u19) h hPt hS ht) hS.2.2 dX0_leastSum_40 (hlocks := hlk)
  · have h := h.2 c4
    refine lv_iconst (v := 0) hx hb dX0_leastSum_7 (by decide) ?_
    exact W.iret (v := 0) hx hb hr (fun t ht _ => QWi.mk (u := σ) h hPt hS ht) hS.2.2 dX0_leastSum_8 (hlocks := hlk)
theorem qX0_leastSum {R : Room} {s : State} {args : Array Value} {own : String} {idx : Nat} (hts : ∀ w ∈ gG, w.before args s = true) (hl : (Cond.methodLink own idx yX0_leastSum).before args s = true) (hR : rX0_leastSum.frames + 1 ≤ R.frames ∧ 8 + (3 + 11) + rX0_leastSum.locals ≤ R.locals) : CallW R s args own RX0 idx yX0_leastSum cX0_leastSum 3 (some .int) (wz yX0_leastSum cX0_leastSum 3 (some .int)) rX0_leastSum 0 0 1 := ⟨kw 1 hts mw_396 rfl rfl (tw_72 hts) hl (by decide +kernel) hR, tw_394 hts, tw_395 hts⟩
abbrev rX0_pieceAt : Room := { frames := 3, cells := 0, slots := 0, locals := 73 }
def pX0_pieceAt_21s (σ2 : Mx) (ih21 : Int32 → Int32 → Int32 → Int32 → Mx → Prop) (Q : Int32 → Mx → Prop) (x2 : Int32) (x3 : Int32) (x4 : Int32) (x5 : Int32) (σ : Mx) : Prop := (x2 < x5 → (Q x4 σ)) ∧ (¬ x2 < x5 → (pX0_bestNext σ (σ2 8 0) x3 x4 (fun r35 => (∀ v46 : Int32, v46 = (x3 ||| (1 <<< (r35 &&& 31))) → (ih21 x2 v46 r35 (x5 + 1) σ)))))
noncomputable def pX0_pieceAt_21 (σ2 : Mx) (Q : Int32 → Mx → Prop) (n : Nat) : Int32 → Int32 → Int32 → Int32 → Mx → Prop := Nat.rec (motive := fun _ => Int32 → Int32 → Int32 → Int32 → Mx → Prop) (fun _ _ _ _ _ => False) (fun _ ih => pX0_pieceAt_21s σ2 ih Q) n
def pX0_pieceAt (σ : Mx) (σ2 : Mx) (x2 : Int32) (Q : Int32 → Mx → Prop) : Prop := pX0_weigh σ σ2 (fun u2 => (pX0_fillRests u2 (σ2 8 0) (fun u10 => (∃ n, pX0_pieceAt_21 σ2 Q n x2 0 (-1) 0 u10))))
set_option maxHeartbeats 4000000 in
set_option maxRecDepth 100000 in
theorem bX0_pieceAt_21 {p : Program} {l : Launch} {e : Env} {s : State} {m : MethodId} {args : Array Value} {below : List Frame} {meth : Method} {c : Code} {D : va_G} {κ : Nat → ClassId} {a : Nat → Nat} {a2 : Nat → Nat} {σ2 : Mx}  {Q : Int32 → Mx → Prop} (Cc : Cx D κ RX0 cX0_pieceAt 6 (some .int) p s m args meth c) (hIt : Ij a 5) (hDj : Dj a 5 a2 8)   (n : Nat) : ∀ (x2 : Int32) (x3 : Int32) (x4 : Int32) (x5 : Int32) (σ : Mx) (H : Heap) (locs : List Loc) (hPt : va_P D classes (wLy κ a σ) H) (hPu : va_P D classes (wCo κ a2 σ2) H) (hS : va_S (cA a 5) s.heap H locs) (ls : Array Slot) (hl : lv_has ls 6 [(0, .ref (a 0)), (1, .ref (a2 0)), (2, .int x2), (3, .int x3), (4, .int x4), (5, .int x5)]) (h : pX0_pieceAt_21 σ2 Q n x2 x3 x4 x5 σ), W p l e rX0_pieceAt s m args below meth c H locs 0 0 (MQ below (QWi Q (fun u H => va_P D classes (wLy κ a u) H) (cA a 5)) args s 0 0 (cA a 5)) (F0 m 21 ls []) := by
  obtain ⟨hx, hb, hml, hown, hts, hr, hlk, hE⟩ := id Cc
  induction n with
  | zero =>
    intro x2 x3 x4 x5 σ H locs hPt hPu hS ls hl h
    exact absurd h (fun z => z)
  | succ n hih21 =>
    intro x2 x3 x4 x5 σ H locs hPt hPu hS ls hl h
    have h : pX0_pieceAt_21s σ2 (pX0_pieceAt_21 σ2 Q n) Q x2 x3 x4 x5 σ := h
    unfold pX0_pieceAt_21s at h
    refine lv_iload hx hb dX0_pieceAt_21 (lv_at hl 5 rfl) ?_
    refine lv_iload_n hx hb dX0_pieceAt_23 rfl (lv_at hl 2 rfl) ?_
    refine lv_icmp_gt (tgt := 53) hx hb dX0_pieceAt_24 (by decide) (fun c24 => ?_) (fun c24 => ?_)
    · have h := h.1 c24
      refine lv_iload hx hb dX0_pieceAt_53 (lv_at hl 4 rfl) ?_
      exact W.iret (v := x4) hx hb hr (fun t ht _ => QWi.mk (u := σ) h hPt hS ht) hS.2.2 dX0_pieceAt_55 (hlocks := hlk)
    · have h := h.2 c24
      refine lv_aload_n hx hb dX0_pieceAt_27 rfl (lv_at hl 0 rfl) ?_
      refine lv_aload_n hx hb dX0_pieceAt_28 rfl (lv_at hl 1 rfl) ?_
      refine gCo_8 Cc hPu (tw_115 hts) dX0_pieceAt_29 ?_
      refine lv_iload_n hx hb dX0_pieceAt_32 rfl (lv_at hl 3 rfl) ?_
      refine lv_iload hx hb dX0_pieceAt_33 (lv_at hl 4 rfl) ?_
      refine kR (kV Cc (mX0_bestNext l D κ a h) (qX0_bestNext hts (tw_419 hts) ⟨(Nat.le_of_ble_eq_true rfl), (Nat.le_of_ble_eq_true rfl)⟩) (va_recv hE.1 hPt (ci := 0) (q0 := 0) rfl rfl) (rest := []) hPt rfl hl.1 rfl (Nat.le_of_ble_eq_true rfl) dX0_pieceAt_35 ⟨Nat.zero_le _, Nat.zero_le _⟩) (fun r35 h => ?_)
      refine lv_istore (lv' := [(4, .int r35), (0, .ref (a 0)), (1, .ref (a2 0)), (2, .int x2), (3, .int x3), (5, .int x5)]) hx hb dX0_pieceAt_38 hl (by decide) rfl (fun ls hl => ?_)
      refine lv_iload_n hx hb dX0_pieceAt_40 rfl (lv_at hl 4 rfl) ?_
      refine lv_iconst (v := 1) hx hb dX0_pieceAt_41 (by decide) ?_
      refine lv_iload hx hb dX0_pieceAt_42 (lv_at hl 0 rfl) ?_
      refine lv_ishl hx hb dX0_pieceAt_44 ?_
      refine lv_ior hx hb dX0_pieceAt_45 ?_
      refine lv_topi (fun v46 e46 => ?_)
      have h := h v46 e46
      refine lv_istore_n (lv' := [(3, .int v46), (4, .int r35), (0, .ref (a 0)), (1, .ref (a2 0)), (2, .int x2), (5, .int x5)]) hx hb dX0_pieceAt_46 rfl hl (by decide) rfl (fun ls hl => ?_)
      refine lv_iinc (v := (x5 + 1)) (lv' := [(5, .int (x5 + 1)), (3, .int v46), (4, .int r35), (0, .ref (a 0)), (1, .ref (a2 0)), (2, .int x2)]) hx hb dX0_pieceAt_47 hl (k := 5) rfl rfl (by decide) rfl (fun ls hl => ?_)
      refine lv_goto (tgt := 21) hx hb dX0_pieceAt_50 (by decide) ?_
      exact hih21 x2 v46 r35 (x5 + 1) σ _ _ hPt hPu hS _ (lv_sub hl [3, 4, 5, 1, 2, 0] rfl) h
set_option maxHeartbeats 4000000 in
set_option maxRecDepth 100000 in
theorem mX0_pieceAt (l : Launch) (D : va_G) (κ : Nat → ClassId) (a : Nat → Nat) (a2 : Nat → Nat) {σ : Mx} {σ2 : Mx} {x2 : Int32} {Q : Int32 → Mx → Prop} (hIt : Ij a 5) (hDj : Dj a 5 a2 8) (h : pX0_pieceAt σ σ2 x2 Q) : Met l yX0_pieceAt (wz yX0_pieceAt cX0_pieceAt 6 (some .int)) rX0_pieceAt (va_Pc [.ref (a 0), .ref (a2 0), .int x2] (PE D κ (fun H => va_P D classes (wLy κ a σ) H ∧ va_P D classes (wCo κ a2 σ2) H))) (QWi Q (fun u H => va_P D classes (wLy κ a u) H) (cA a 5)) 0 0 (cA a 5) := by
  refine Met_of l (own := RX0) (by decide) rfl (Nat.le_of_ble_eq_true rfl) (fun p e s m below meth c Cc hPP ls hl => ?_)
  obtain ⟨hx, hb, hml, hown, hts, hr, hlk, hE⟩ := id Cc
  have hl : lv_has ls 6 [(0, .ref (a 0)), (1, .ref (a2 0)), (2, .int x2)] := hl
  obtain ⟨hPt, hPu⟩ := hPP
  have hS : va_S (cA a 5) s.heap s.heap [] := va_S.rf
  unfold pX0_pieceAt at h
  refine lv_aload_n hx hb dX0_pieceAt_0 rfl (lv_at hl 0 rfl) ?_
  refine lv_aload_n hx hb dX0_pieceAt_1 rfl (lv_at hl 1 rfl) ?_
  refine kWv (kV Cc (mX0_weigh l D κ a a2 hIt hDj h) (qX0_weigh hts (tw_397 hts) ⟨(Nat.le_of_ble_eq_true rfl), (Nat.le_of_ble_eq_true rfl)⟩) (va_recv hE.1 hPt (ci := 0) (q0 := 0) rfl rfl) (rest := []) ⟨hPt, hPu⟩ rfl hl.1 rfl (Nat.le_of_ble_eq_true rfl) dX0_pieceAt_2 ⟨Nat.zero_le _, Nat.zero_le _⟩) hS (fun q h9 => h9) (fun  u2 H1 locs1 h hB hk hS1 => ?_)
  have hPu := kpF wCo_wl hPu hDj hk
  have hPt := hB
  have hS := hS1
  refine lv_aload_n hx hb dX0_pieceAt_5 rfl (lv_at hl 0 rfl) ?_
  refine lv_aload_n hx hb dX0_pieceAt_6 rfl (lv_at hl 1 rfl) ?_
  refine gCo_8 Cc hPu (tw_115 hts) dX0_pieceAt_7 ?_
  refine kWv (kV Cc (mX0_fillRests l D κ a hIt h) (qX0_fillRests hts (tw_403 hts) ⟨(Nat.le_of_ble_eq_true rfl), (Nat.le_of_ble_eq_true rfl)⟩) (va_recv hE.1 hPt (ci := 0) (q0 := 0) rfl rfl) (rest := []) hPt rfl hl.1 rfl (Nat.le_of_ble_eq_true rfl) dX0_pieceAt_10 ⟨Nat.zero_le _, Nat.zero_le _⟩) hS (fun q h9 => h9) (fun  u10 H1 locs1 h hB hk hS1 => ?_)
  have hPu := kpF wCo_wl hPu hDj hk
  have hPt := hB
  have hS := hS1
  refine lv_iconst (v := 0) hx hb dX0_pieceAt_13 (by decide) ?_
  refine lv_istore_n (lv' := [(3, .int 0), (0, .ref (a 0)), (1, .ref (a2 0)), (2, .int x2)]) hx hb dX0_pieceAt_14 rfl hl (by decide) rfl (fun ls hl => ?_)
  refine lv_iconst (v := (-1)) hx hb dX0_pieceAt_15 (by decide) ?_
  refine lv_istore (lv' := [(4, .int (-1)), (3, .int 0), (0, .ref (a 0)), (1, .ref (a2 0)), (2, .int x2)]) hx hb dX0_pieceAt_16 hl (by decide) rfl (fun ls hl => ?_)
  refine lv_iconst (v := 0) hx hb dX0_pieceAt_18 (by decide) ?_
  refine lv_istore (lv' := [(5, .int 0), (4, .int (-1)), (3, .int 0), (0, .ref (a 0)), (1, .ref (a2 0)), (2, .int x2)]) hx hb dX0_pieceAt_19 hl (by decide) rfl (fun ls hl => ?_)
  obtain ⟨n, h⟩ := h
  exact bX0_pieceAt_21 Cc hIt hDj n x2 0 (-1) 0 u10 _ _ hPt hPu hS _ (lv_sub hl [3, 4, 5, 2, 1, 0] rfl) h
theorem qX0_pieceAt {R : Room} {s : State} {args : Array Value} {own : String} {idx : Nat} (hts : ∀ w ∈ gG, w.before args s = true) (hl : (Cond.methodLink own idx yX0_pieceAt).before args s = true) (hR : rX0_pieceAt.frames + 1 ≤ R.frames ∧ 8 + (6 + 11) + rX0_pieceAt.locals ≤ R.locals) : CallW R s args own RX0 idx yX0_pieceAt cX0_pieceAt 6 (some .int) (wz yX0_pieceAt cX0_pieceAt 6 (some .int)) rX0_pieceAt 0 0 2 := ⟨kw 2 hts mw_475 rfl rfl (tw_72 hts) hl (by decide +kernel) hR, tw_473 hts, tw_474 hts⟩
abbrev rX3_append : Room := { frames := 0, cells := 0, slots := 0, locals := 0 }
def pX3_append_4s  (ih4 : Int32 → Int32 → Mx → Prop) (Q : Mx → Prop) (x1 : Int32) (x3 : Int32) (σ : Mx) : Prop := (x3 < 0 → (Q σ)) ∧ (¬ x3 < 0 → (vp_in (σ 1 0) 120 ∧ (ih4 x1 (x3 + (-1)) (st (st σ 0 (σ 1 0).toNatClampNeg (((x1.toUInt32 >>> ((8 * x3).toUInt32 &&& Int32.toUInt32 31)).toInt32) &&& 255)) 1 0 (((st σ 0 (σ 1 0).toNatClampNeg (((x1.toUInt32 >>> ((8 * x3).toUInt32 &&& Int32.toUInt32 31)).toInt32) &&& 255)) 1 0) + 1)))))
noncomputable def pX3_append_4 (Q : Mx → Prop) (n : Nat) : Int32 → Int32 → Mx → Prop := Nat.rec (motive := fun _ => Int32 → Int32 → Mx → Prop) (fun _ _ _ => False) (fun _ ih => pX3_append_4s ih Q) n
def pX3_append (σ : Mx) (x1 : Int32) (x2 : Int32) (Q : Mx → Prop) : Prop := ∀ v3 : Int32, v3 = (x2 - 1) → (∃ n, pX3_append_4 Q n x1 v3 σ)
set_option maxHeartbeats 4000000 in
set_option maxRecDepth 100000 in
theorem bX3_append_4 {p : Program} {l : Launch} {e : Env} {s : State} {m : MethodId} {args : Array Value} {below : List Frame} {meth : Method} {c : Code} {D : va_G} {κ : Nat → ClassId} {a : Nat → Nat}   {Q : Mx → Prop} (Cc : Cx D κ RX3 cX3_append 4 none p s m args meth c) (hIt : Ij a 2)   (n : Nat) : ∀ (x1 : Int32) (x3 : Int32) (σ : Mx) (H : Heap) (locs : List Loc) (hPt : va_P D classes (wTp κ a σ) H) (hS : va_S (cA a 2) s.heap H locs) (ls : Array Slot) (hl : lv_has ls 4 [(0, .ref (a 0)), (1, .int x1), (3, .int x3)]) (h : pX3_append_4 Q n x1 x3 σ), W p l e rX3_append s m args below meth c H locs 0 0 (MQ below (QWv Q (fun u H => va_P D classes (wTp κ a u) H) (cA a 2)) args s 0 0 (cA a 2)) (F0 m 4 ls []) := by
  obtain ⟨hx, hb, hml, hown, hts, hr, hlk, hE⟩ := id Cc
  induction n with
  | zero =>
    intro x1 x3 σ H locs hPt hS ls hl h
    exact absurd h (fun z => z)
  | succ n hih4 =>
    intro x1 x3 σ H locs hPt hS ls hl h
    have h : pX3_append_4s (pX3_append_4 Q n) Q x1 x3 σ := h
    unfold pX3_append_4s at h
    refine lv_iload_n hx hb dX3_append_4 rfl (lv_at hl 2 rfl) ?_
    refine lv_if_lt (tgt := 43) hx hb dX3_append_5 (by decide) (fun c5 => ?_) (fun c5 => ?_)
    · have h := h.1 c5
      exact W.vret hx hb hr (fun t ht _ => QWv.mk (u := σ) h hPt hS ht) hS.2.2 dX3_append_43 (hlocks := hlk)
    · have h := h.2 c5
      refine lv_aload_n hx hb dX3_append_8 rfl (lv_at hl 0 rfl) ?_
      refine gTp_0 Cc hPt (tw_172 hts) dX3_append_9 ?_
      refine lv_aload_n hx hb dX3_append_12 rfl (lv_at hl 0 rfl) ?_
      refine gTp_1 Cc hPt (tw_173 hts) dX3_append_13 ?_
      refine lv_iload_n hx hb dX3_append_16 rfl (lv_at hl 1 rfl) ?_
      refine lv_bipush (v := 8) hx hb dX3_append_17 (by decide) ?_
      refine lv_iload_n hx hb dX3_append_19 rfl (lv_at hl 2 rfl) ?_
      refine lv_imul hx hb dX3_append_20 ?_
      refine lv_iushr (v := (x1.toUInt32 >>> ((8 * x3).toUInt32 &&& Int32.toUInt32 31)).toInt32) hx hb dX3_append_21 rfl ?_
      refine lv_sipush (v := 255) hx hb dX3_append_22 (by decide) ?_
      refine lv_iand hx hb dX3_append_25 ?_
      refine sTp_0 Cc hPt hIt hS ⟨1, by decide, rfl⟩ h.1 dX3_append_26 (fun H1 locs1 hB hS1 hk => ?_)
      have h := h.2
      have hPt := hB
      have hS := hS1
      refine lv_aload_n hx hb dX3_append_27 rfl (lv_at hl 0 rfl) ?_
      refine lv_dup hx hb dX3_append_28 rfl ?_
      refine gTp_1 Cc hPt (tw_173 hts) dX3_append_29 ?_
      refine lv_iconst (v := 1) hx hb dX3_append_32 (by decide) ?_
      refine lv_iadd hx hb dX3_append_33 ?_
      refine uTp_1 Cc hPt hIt hS ⟨0, by decide, rfl⟩ (tw_173 hts) dX3_append_34 (fun H1 locs1 hB hS1 hk => ?_)
      have hPt := hB
      have hS := hS1
      refine lv_iinc (v := (x3 + (-1))) (lv' := [(3, .int (x3 + (-1))), (0, .ref (a 0)), (1, .int x1)]) hx hb dX3_append_37 hl (k := 2) rfl rfl (by decide) rfl (fun ls hl => ?_)
      refine lv_goto (tgt := 4) hx hb dX3_append_40 (by decide) ?_
      exact hih4 x1 (x3 + (-1)) (st (st σ 0 (σ 1 0).toNatClampNeg (((x1.toUInt32 >>> ((8 * x3).toUInt32 &&& Int32.toUInt32 31)).toInt32) &&& 255)) 1 0 (((st σ 0 (σ 1 0).toNatClampNeg (((x1.toUInt32 >>> ((8 * x3).toUInt32 &&& Int32.toUInt32 31)).toInt32) &&& 255)) 1 0) + 1)) _ _ hPt hS _ (lv_sub hl [1, 2, 0] rfl) h
set_option maxHeartbeats 4000000 in
set_option maxRecDepth 100000 in
theorem mX3_append (l : Launch) (D : va_G) (κ : Nat → ClassId) (a : Nat → Nat) {σ : Mx} {x1 : Int32} {x2 : Int32} {Q : Mx → Prop} (hIt : Ij a 2) (h : pX3_append σ x1 x2 Q) : Met l yX3_append (wz yX3_append cX3_append 4 none) rX3_append (va_Pc [.ref (a 0), .int x1, .int x2] (PE D κ (fun H => va_P D classes (wTp κ a σ) H))) (QWv Q (fun u H => va_P D classes (wTp κ a u) H) (cA a 2)) 0 0 (cA a 2) := by
  refine Met_of l (own := RX3) (by decide) rfl (Nat.le_of_ble_eq_true rfl) (fun p e s m below meth c Cc hPP ls hl => ?_)
  obtain ⟨hx, hb, hml, hown, hts, hr, hlk, hE⟩ := id Cc
  have hl : lv_has ls 4 [(0, .ref (a 0)), (1, .int x1), (2, .int x2)] := hl
  have hPt := hPP
  have hS : va_S (cA a 2) s.heap s.heap [] := va_S.rf
  unfold pX3_append at h
  refine lv_iload_n hx hb dX3_append_0 rfl (lv_at hl 2 rfl) ?_
  refine lv_iconst (v := 1) hx hb dX3_append_1 (by decide) ?_
  refine lv_isub hx hb dX3_append_2 ?_
  refine lv_topi (fun v3 e3 => ?_)
  have h := h v3 e3
  refine lv_istore_n (lv' := [(3, .int v3), (0, .ref (a 0)), (1, .int x1), (2, .int x2)]) hx hb dX3_append_3 rfl hl (by decide) rfl (fun ls hl => ?_)
  obtain ⟨n, h⟩ := h
  exact bX3_append_4 Cc hIt n x1 v3 σ _ _ hPt hS _ (lv_sub hl [1, 2, 0] rfl) h
theorem qX3_append {R : Room} {s : State} {args : Array Value} {own : String} {idx : Nat} (hts : ∀ w ∈ gG, w.before args s = true) (hl : (Cond.methodLink own idx yX3_append).before args s = true) (hR : rX3_append.frames + 1 ≤ R.frames ∧ 8 + (4 + 11) + rX3_append.locals ≤ R.locals) : CallW R s args own RX3 idx yX3_append cX3_append 4 none (wz yX3_append cX3_append 4 none) rX3_append 0 0 2 := ⟨kw 2 hts mw_554 rfl rfl (tw_73 hts) hl (by decide +kernel) hR, tw_552 hts, tw_553 hts⟩
abbrev rX3_sortAt : Room := { frames := 0, cells := 0, slots := 0, locals := 0 }
def pX3_sortAt_74 (σ : Mx) (Q : Int32 → Prop) (y0 : Int32) : Prop := Q y0
def pX3_sortAt_58 (σ : Mx) (Q : Int32 → Prop) (x1 : Int32) : Prop := vp_in x1 120 ∧ ((¬ (σ 0 x1.toNatClampNeg) = 59 → (pX3_sortAt_74 σ Q 4)) ∧ ((σ 0 x1.toNatClampNeg) = 59 → (pX3_sortAt_74 σ Q 3)))
def pX3_sortAt_34 (σ : Mx) (Q : Int32 → Prop) (x1 : Int32) : Prop := vp_in x1 120 ∧ (((σ 0 x1.toNatClampNeg) < 48 → (pX3_sortAt_58 σ Q x1)) ∧ (¬ (σ 0 x1.toNatClampNeg) < 48 → (vp_in x1 120 ∧ ((57 < (σ 0 x1.toNatClampNeg) → (pX3_sortAt_58 σ Q x1)) ∧ (¬ 57 < (σ 0 x1.toNatClampNeg) → (Q 2))))))
def pX3_sortAt (σ : Mx) (x1 : Int32) (Q : Int32 → Prop) : Prop := (x1 < (σ 1 0) → (vp_in x1 120 ∧ (((σ 0 x1.toNatClampNeg) < 97 → (pX3_sortAt_34 σ Q x1)) ∧ (¬ (σ 0 x1.toNatClampNeg) < 97 → (vp_in x1 120 ∧ ((122 < (σ 0 x1.toNatClampNeg) → (pX3_sortAt_34 σ Q x1)) ∧ (¬ 122 < (σ 0 x1.toNatClampNeg) → (Q 1)))))))) ∧ (¬ x1 < (σ 1 0) → (Q 0))
set_option maxHeartbeats 4000000 in
set_option maxRecDepth 100000 in
theorem bX3_sortAt_74 {p : Program} {l : Launch} {e : Env} {s : State} {m : MethodId} {args : Array Value} {below : List Frame} {meth : Method} {c : Code} {D : va_G} {κ : Nat → ClassId} {a : Nat → Nat} {σ : Mx}  {Q : Int32 → Prop} (Cc : Cx D κ RX3 cX3_sortAt 2 (some .int) p s m args meth c)  (hPt : va_P D classes (wTp κ a σ) s.heap)  : ∀ (y0 : Int32) (ls : Array Slot) (hl : lv_has ls 2 []) (h : pX3_sortAt_74 σ Q y0), W p l e rX3_sortAt s m args below meth c s.heap [] 0 0 (MQ below (RQ Q) args s 0 0 (fun _ => False)) (F0 m 74 ls [.int y0]) := by
  obtain ⟨hx, hb, hml, hown, hts, hr, hlk, hE⟩ := id Cc
  intro y0 ls hl h
  unfold pX3_sortAt_74 at h
  exact W.iret (v := y0) hx hb hr (fun t ht _ => RQ.mk h ht) (fun _ h9 => by cases h9) dX3_sortAt_74 (hlocks := hlk)
set_option maxHeartbeats 4000000 in
set_option maxRecDepth 100000 in
theorem bX3_sortAt_58 {p : Program} {l : Launch} {e : Env} {s : State} {m : MethodId} {args : Array Value} {below : List Frame} {meth : Method} {c : Code} {D : va_G} {κ : Nat → ClassId} {a : Nat → Nat} {σ : Mx}  {Q : Int32 → Prop} (Cc : Cx D κ RX3 cX3_sortAt 2 (some .int) p s m args meth c)  (hPt : va_P D classes (wTp κ a σ) s.heap)  : ∀ (x1 : Int32) (ls : Array Slot) (hl : lv_has ls 2 [(0, .ref (a 0)), (1, .int x1)]) (h : pX3_sortAt_58 σ Q x1), W p l e rX3_sortAt s m args below meth c s.heap [] 0 0 (MQ below (RQ Q) args s 0 0 (fun _ => False)) (F0 m 58 ls []) := by
  obtain ⟨hx, hb, hml, hown, hts, hr, hlk, hE⟩ := id Cc
  intro x1 ls hl h
  unfold pX3_sortAt_58 at h
  refine lv_aload_n hx hb dX3_sortAt_58 rfl (lv_at hl 0 rfl) ?_
  refine gTp_0 Cc hPt (tw_172 hts) dX3_sortAt_59 ?_
  refine lv_iload_n hx hb dX3_sortAt_62 rfl (lv_at hl 1 rfl) ?_
  refine lTp_0 Cc hPt h.1 dX3_sortAt_63 ?_
  have h := h.2
  refine lv_bipush (v := 59) hx hb dX3_sortAt_64 (by decide) ?_
  refine lv_icmp_ne (tgt := 73) hx hb dX3_sortAt_66 (by decide) (fun c66 => ?_) (fun c66 => ?_)
  · have h := h.1 c66
    refine lv_iconst (v := 4) hx hb dX3_sortAt_73 (by decide) ?_
    exact bX3_sortAt_74 Cc hPt 4  _ (lv_sub hl [] rfl) h
  · have h := h.2 c66
    refine lv_iconst (v := 3) hx hb dX3_sortAt_69 (by decide) ?_
    refine lv_goto (tgt := 74) hx hb dX3_sortAt_70 (by decide) ?_
    exact bX3_sortAt_74 Cc hPt 3  _ (lv_sub hl [] rfl) h
set_option maxHeartbeats 4000000 in
set_option maxRecDepth 100000 in
theorem bX3_sortAt_34 {p : Program} {l : Launch} {e : Env} {s : State} {m : MethodId} {args : Array Value} {below : List Frame} {meth : Method} {c : Code} {D : va_G} {κ : Nat → ClassId} {a : Nat → Nat} {σ : Mx}  {Q : Int32 → Prop} (Cc : Cx D κ RX3 cX3_sortAt 2 (some .int) p s m args meth c)  (hPt : va_P D classes (wTp κ a σ) s.heap)  : ∀ (x1 : Int32) (ls : Array Slot) (hl : lv_has ls 2 [(0, .ref (a 0)), (1, .int x1)]) (h : pX3_sortAt_34 σ Q x1), W p l e rX3_sortAt s m args below meth c s.heap [] 0 0 (MQ below (RQ Q) args s 0 0 (fun _ => False)) (F0 m 34 ls []) := by
  obtain ⟨hx, hb, hml, hown, hts, hr, hlk, hE⟩ := id Cc
  intro x1 ls hl h
  unfold pX3_sortAt_34 at h
  refine lv_aload_n hx hb dX3_sortAt_34 rfl (lv_at hl 0 rfl) ?_
  refine gTp_0 Cc hPt (tw_172 hts) dX3_sortAt_35 ?_
  refine lv_iload_n hx hb dX3_sortAt_38 rfl (lv_at hl 1 rfl) ?_
  refine lTp_0 Cc hPt h.1 dX3_sortAt_39 ?_
  have h := h.2
  refine lv_bipush (v := 48) hx hb dX3_sortAt_40 (by decide) ?_
  refine lv_icmp_lt (tgt := 58) hx hb dX3_sortAt_42 (by decide) (fun c42 => ?_) (fun c42 => ?_)
  · have h := h.1 c42
    exact bX3_sortAt_58 Cc hPt x1  _ (lv_sub hl [0, 1] rfl) h
  · have h := h.2 c42
    refine lv_aload_n hx hb dX3_sortAt_45 rfl (lv_at hl 0 rfl) ?_
    refine gTp_0 Cc hPt (tw_172 hts) dX3_sortAt_46 ?_
    refine lv_iload_n hx hb dX3_sortAt_49 rfl (lv_at hl 1 rfl) ?_
    refine lTp_0 Cc hPt h.1 dX3_sortAt_50 ?_
    have h := h.2
    refine lv_bipush (v := 57) hx hb dX3_sortAt_51 (by decide) ?_
    refine lv_icmp_gt (tgt := 58) hx hb dX3_sortAt_53 (by decide) (fun c53 => ?_) (fun c53 => ?_)
    · have h := h.1 c53
      exact bX3_sortAt_58 Cc hPt x1  _ (lv_sub hl [0, 1] rfl) h
    · have h := h.2 c53
      refine lv_iconst (v := 2) hx hb dX3_sortAt_56 (by decide) ?_
      exact W.iret (v := 2) hx hb hr (fun t ht _ => RQ.mk h ht) (fun _ h9 => by cases h9) dX3_sortAt_57 (hlocks := hlk)
set_option maxHeartbeats 4000000 in
set_option maxRecDepth 100000 in
theorem mX3_sortAt (l : Launch) (D : va_G) (κ : Nat → ClassId) (a : Nat → Nat) {σ : Mx} {x1 : Int32} {Q : Int32 → Prop}  (h : pX3_sortAt σ x1 Q) : Met l yX3_sortAt (wz yX3_sortAt cX3_sortAt 2 (some .int)) rX3_sortAt (va_Pc [.ref (a 0), .int x1] (PE D κ (fun H => va_P D classes (wTp κ a σ) H))) (RQ Q) 0 0 (fun _ => False) := by
  refine Met_of l (own := RX3) (by decide) rfl (Nat.le_of_ble_eq_true rfl) (fun p e s m below meth c Cc hPP ls hl => ?_)
  obtain ⟨hx, hb, hml, hown, hts, hr, hlk, hE⟩ := id Cc
  have hl : lv_has ls 2 [(0, .ref (a 0)), (1, .int x1)] := hl
  have hPt := hPP
  unfold pX3_sortAt at h
  refine lv_iload_n hx hb dX3_sortAt_0 rfl (lv_at hl 1 rfl) ?_
  refine lv_aload_n hx hb dX3_sortAt_1 rfl (lv_at hl 0 rfl) ?_
  refine gTp_1 Cc hPt (tw_173 hts) dX3_sortAt_2 ?_
  refine lv_icmp_lt (tgt := 10) hx hb dX3_sortAt_5 (by decide) (fun c5 => ?_) (fun c5 => ?_)
  · have h := h.1 c5
    refine lv_aload_n hx hb dX3_sortAt_10 rfl (lv_at hl 0 rfl) ?_
    refine gTp_0 Cc hPt (tw_172 hts) dX3_sortAt_11 ?_
    refine lv_iload_n hx hb dX3_sortAt_14 rfl (lv_at hl 1 rfl) ?_
    refine lTp_0 Cc hPt h.1 dX3_sortAt_15 ?_
    have h := h.2
    refine lv_bipush (v := 97) hx hb dX3_sortAt_16 (by decide) ?_
    refine lv_icmp_lt (tgt := 34) hx hb dX3_sortAt_18 (by decide) (fun c18 => ?_) (fun c18 => ?_)
    · have h := h.1 c18
      exact bX3_sortAt_34 Cc hPt x1  _ (lv_sub hl [0, 1] rfl) h
    · have h := h.2 c18
      refine lv_aload_n hx hb dX3_sortAt_21 rfl (lv_at hl 0 rfl) ?_
      refine gTp_0 Cc hPt (tw_172 hts) dX3_sortAt_22 ?_
      refine lv_iload_n hx hb dX3_sortAt_25 rfl (lv_at hl 1 rfl) ?_
      refine lTp_0 Cc hPt h.1 dX3_sortAt_26 ?_
      have h := h.2
      refine lv_bipush (v := 122) hx hb dX3_sortAt_27 (by decide) ?_
      refine lv_icmp_gt (tgt := 34) hx hb dX3_sortAt_29 (by decide) (fun c29 => ?_) (fun c29 => ?_)
      · have h := h.1 c29
        exact bX3_sortAt_34 Cc hPt x1  _ (lv_sub hl [0, 1] rfl) h
      · have h := h.2 c29
        refine lv_iconst (v := 1) hx hb dX3_sortAt_32 (by decide) ?_
        exact W.iret (v := 1) hx hb hr (fun t ht _ => RQ.mk h ht) (fun _ h9 => by cases h9) dX3_sortAt_33 (hlocks := hlk)
  · have h := h.2 c5
    refine lv_iconst (v := 0) hx hb dX3_sortAt_8 (by decide) ?_
    exact W.iret (v := 0) hx hb hr (fun t ht _ => RQ.mk h ht) (fun _ h9 => by cases h9) dX3_sortAt_9 (hlocks := hlk)
theorem qX3_sortAt {R : Room} {s : State} {args : Array Value} {own : String} {idx : Nat} (hts : ∀ w ∈ gG, w.before args s = true) (hl : (Cond.methodLink own idx yX3_sortAt).before args s = true) (hR : rX3_sortAt.frames + 1 ≤ R.frames ∧ 8 + (2 + 11) + rX3_sortAt.locals ≤ R.locals) : CallW R s args own RX3 idx yX3_sortAt cX3_sortAt 2 (some .int) (wz yX3_sortAt cX3_sortAt 2 (some .int)) rX3_sortAt 0 0 1 := ⟨kw 1 hts mw_574 rfl rfl (tw_73 hts) hl (by decide +kernel) hR, tw_573 hts, tw_13 hts⟩
abbrev rX3_step : Room := { frames := 1, cells := 0, slots := 0, locals := 21 }
def pX3_step_147 (Q : Mx → Prop) (σ : Mx) : Prop := Q σ
def pX3_step_104s  (ih104 : Int32 → Mx → Prop) (Q : Mx → Prop) (x1 : Int32) (σ : Mx) : Prop := (x1 = 0 → (pX3_step_147 Q σ)) ∧ (¬ x1 = 0 → (((σ 1 0) ≤ (σ 4 0) → (pX3_step_147 Q σ)) ∧ (¬ (σ 1 0) ≤ (σ 4 0) → (pX3_sortAt σ (σ 4 0) (fun r124 => ((¬ r124 = (σ 2 0) → (pX3_step_147 Q σ)) ∧ (r124 = (σ 2 0) → (ih104 x1 (st σ 4 0 ((σ 4 0) + 1))))))))))
noncomputable def pX3_step_104 (Q : Mx → Prop) (n : Nat) : Int32 → Mx → Prop := Nat.rec (motive := fun _ => Int32 → Mx → Prop) (fun _ _ => False) (fun _ ih => pX3_step_104s ih Q) n
def pX3_step_103 (Q : Mx → Prop) (y0 : Int32) (σ : Mx) : Prop := ∃ n, pX3_step_104 Q n y0 σ
def pX3_step_98 (Q : Mx → Prop) (σ : Mx) : Prop := pX3_step_103 Q 1 σ
def pX3_step_79 (Q : Mx → Prop) (y0 : Int32) (σ : Mx) : Prop := (((st σ 4 0 y0) 2 0) = 1 → (pX3_step_98 Q (st σ 4 0 y0))) ∧ (¬ ((st σ 4 0 y0) 2 0) = 1 → ((¬ ((st σ 4 0 y0) 2 0) = 2 → (pX3_step_103 Q 0 (st σ 4 0 y0))) ∧ (((st σ 4 0 y0) 2 0) = 2 → (pX3_step_98 Q (st σ 4 0 y0)))))
def pX3_step_46 (Q : Mx → Prop) (σ : Mx) : Prop := pX3_sortAt σ (σ 3 0) (fun r52 => ((¬ ((st σ 2 0 r52) 2 0) = 0 → (pX3_step_79 Q (((st σ 2 0 r52) 3 0) + 1) (st σ 2 0 r52))) ∧ (((st σ 2 0 r52) 2 0) = 0 → (pX3_step_79 Q ((st σ 2 0 r52) 3 0) (st σ 2 0 r52)))))
def pX3_step_8s  (ih8 : Mx → Prop) (Q : Mx → Prop) (σ : Mx) : Prop := ((σ 1 0) ≤ (σ 3 0) → (pX3_step_46 Q σ)) ∧ (¬ (σ 1 0) ≤ (σ 3 0) → (vp_in (σ 3 0) 120 ∧ ((¬ (σ 0 (σ 3 0).toNatClampNeg) = 32 → (pX3_step_46 Q σ)) ∧ ((σ 0 (σ 3 0).toNatClampNeg) = 32 → (ih8 (st σ 3 0 ((σ 3 0) + 1)))))))
noncomputable def pX3_step_8 (Q : Mx → Prop) (n : Nat) : Mx → Prop := Nat.rec (motive := fun _ => Mx → Prop) (fun _ => False) (fun _ ih => pX3_step_8s ih Q) n
def pX3_step (σ : Mx)  (Q : Mx → Prop) : Prop := ∃ n, pX3_step_8 Q n (st σ 3 0 (σ 4 0))
set_option maxHeartbeats 4000000 in
set_option maxRecDepth 100000 in
theorem bX3_step_147 {p : Program} {l : Launch} {e : Env} {s : State} {m : MethodId} {args : Array Value} {below : List Frame} {meth : Method} {c : Code} {D : va_G} {κ : Nat → ClassId} {a : Nat → Nat}   {Q : Mx → Prop} (Cc : Cx D κ RX3 cX3_step 2 none p s m args meth c) (hIt : Ij a 2)   : ∀ (σ : Mx) (H : Heap) (locs : List Loc) (hPt : va_P D classes (wTp κ a σ) H) (hS : va_S (cA a 2) s.heap H locs) (ls : Array Slot) (hl : lv_has ls 2 []) (h : pX3_step_147 Q σ), W p l e rX3_step s m args below meth c H locs 0 0 (MQ below (QWv Q (fun u H => va_P D classes (wTp κ a u) H) (cA a 2)) args s 0 0 (cA a 2)) (F0 m 147 ls []) := by
  obtain ⟨hx, hb, hml, hown, hts, hr, hlk, hE⟩ := id Cc
  intro σ H locs hPt hS ls hl h
  unfold pX3_step_147 at h
  exact W.vret hx hb hr (fun t ht _ => QWv.mk (u := σ) h hPt hS ht) hS.2.2 dX3_step_147 (hlocks := hlk)
set_option maxHeartbeats 4000000 in
set_option maxRecDepth 100000 in
theorem bX3_step_104 {p : Program} {l : Launch} {e : Env} {s : State} {m : MethodId} {args : Array Value} {below : List Frame} {meth : Method} {c : Code} {D : va_G} {κ : Nat → ClassId} {a : Nat → Nat}   {Q : Mx → Prop} (Cc : Cx D κ RX3 cX3_step 2 none p s m args meth c) (hIt : Ij a 2)   (n : Nat) : ∀ (x1 : Int32) (σ : Mx) (H : Heap) (locs : List Loc) (hPt : va_P D classes (wTp κ a σ) H) (hS : va_S (cA a 2) s.heap H locs) (ls : Array Slot) (hl : lv_has ls 2 [(0, .ref (a 0)), (1, .int x1)]) (h : pX3_step_104 Q n x1 σ), W p l e rX3_step s m args below meth c H locs 0 0 (MQ below (QWv Q (fun u H => va_P D classes (wTp κ a u) H) (cA a 2)) args s 0 0 (cA a 2)) (F0 m 104 ls []) := by
  obtain ⟨hx, hb, hml, hown, hts, hr, hlk, hE⟩ := id Cc
  induction n with
  | zero =>
    intro x1 σ H locs hPt hS ls hl h
    exact absurd h (fun z => z)
  | succ n hih104 =>
    intro x1 σ H locs hPt hS ls hl h
    have h : pX3_step_104s (pX3_step_104 Q n) Q x1 σ := h
    unfold pX3_step_104s at h
    refine lv_iload_n hx hb dX3_step_104 rfl (lv_at hl 1 rfl) ?_
    refine lv_if_eq (tgt := 147) hx hb dX3_step_105 (by decide) (fun c105 => ?_) (fun c105 => ?_)
    · have h := h.1 c105
      exact bX3_step_147 Cc hIt σ _ _ hPt hS _ (lv_sub hl [] rfl) h
    · have h := h.2 c105
      refine lv_aload_n hx hb dX3_step_108 rfl (lv_at hl 0 rfl) ?_
      refine gTp_4 Cc hPt (tw_177 hts) dX3_step_109 ?_
      refine lv_aload_n hx hb dX3_step_112 rfl (lv_at hl 0 rfl) ?_
      refine gTp_1 Cc hPt (tw_173 hts) dX3_step_113 ?_
      refine lv_icmp_ge (tgt := 147) hx hb dX3_step_116 (by decide) (fun c116 => ?_) (fun c116 => ?_)
      · have h := h.1 c116
        exact bX3_step_147 Cc hIt σ _ _ hPt hS _ (lv_sub hl [] rfl) h
      · have h := h.2 c116
        refine lv_aload_n hx hb dX3_step_119 rfl (lv_at hl 0 rfl) ?_
        refine lv_aload_n hx hb dX3_step_120 rfl (lv_at hl 0 rfl) ?_
        refine gTp_4 Cc hPt (tw_177 hts) dX3_step_121 ?_
        refine kR (kV Cc (mX3_sortAt l D κ a h) (qX3_sortAt hts (tw_571 hts) ⟨(Nat.le_of_ble_eq_true rfl), (Nat.le_of_ble_eq_true rfl)⟩) (va_recv hE.1 hPt (ci := 3) (q0 := 0) rfl rfl) (rest := []) hPt rfl hl.1 rfl (Nat.le_of_ble_eq_true rfl) dX3_step_124 ⟨Nat.zero_le _, Nat.zero_le _⟩) (fun r124 h => ?_)
        refine lv_aload_n hx hb dX3_step_127 rfl (lv_at hl 0 rfl) ?_
        refine gTp_2 Cc hPt (tw_175 hts) dX3_step_128 ?_
        refine lv_icmp_ne (tgt := 147) hx hb dX3_step_131 (by decide) (fun c131 => ?_) (fun c131 => ?_)
        · have h := h.1 c131
          exact bX3_step_147 Cc hIt σ _ _ hPt hS _ (lv_sub hl [] rfl) h
        · have h := h.2 c131
          refine lv_aload_n hx hb dX3_step_134 rfl (lv_at hl 0 rfl) ?_
          refine lv_dup hx hb dX3_step_135 rfl ?_
          refine gTp_4 Cc hPt (tw_177 hts) dX3_step_136 ?_
          refine lv_iconst (v := 1) hx hb dX3_step_139 (by decide) ?_
          refine lv_iadd hx hb dX3_step_140 ?_
          refine uTp_4 Cc hPt hIt hS ⟨0, by decide, rfl⟩ (tw_177 hts) dX3_step_141 (fun H1 locs1 hB hS1 hk => ?_)
          have hPt := hB
          have hS := hS1
          refine lv_goto (tgt := 104) hx hb dX3_step_144 (by decide) ?_
          exact hih104 x1 (st σ 4 0 ((σ 4 0) + 1)) _ _ hPt hS _ (lv_sub hl [0, 1] rfl) h
set_option maxHeartbeats 4000000 in
set_option maxRecDepth 100000 in
theorem bX3_step_103 {p : Program} {l : Launch} {e : Env} {s : State} {m : MethodId} {args : Array Value} {below : List Frame} {meth : Method} {c : Code} {D : va_G} {κ : Nat → ClassId} {a : Nat → Nat}   {Q : Mx → Prop} (Cc : Cx D κ RX3 cX3_step 2 none p s m args meth c) (hIt : Ij a 2)   : ∀ (y0 : Int32) (σ : Mx) (H : Heap) (locs : List Loc) (hPt : va_P D classes (wTp κ a σ) H) (hS : va_S (cA a 2) s.heap H locs) (ls : Array Slot) (hl : lv_has ls 2 [(0, .ref (a 0))]) (h : pX3_step_103 Q y0 σ), W p l e rX3_step s m args below meth c H locs 0 0 (MQ below (QWv Q (fun u H => va_P D classes (wTp κ a u) H) (cA a 2)) args s 0 0 (cA a 2)) (F0 m 103 ls [.int y0]) := by
  obtain ⟨hx, hb, hml, hown, hts, hr, hlk, hE⟩ := id Cc
  intro y0 σ H locs hPt hS ls hl h
  unfold pX3_step_103 at h
  refine lv_istore_n (lv' := [(1, .int y0), (0, .ref (a 0))]) hx hb dX3_step_103 rfl hl (by decide) rfl (fun ls hl => ?_)
  obtain ⟨n, h⟩ := h
  exact bX3_step_104 Cc hIt n y0 σ _ _ hPt hS _ (lv_sub hl [1, 0] rfl) h
set_option maxHeartbeats 4000000 in
set_option maxRecDepth 100000 in
theorem bX3_step_98 {p : Program} {l : Launch} {e : Env} {s : State} {m : MethodId} {args : Array Value} {below : List Frame} {meth : Method} {c : Code} {D : va_G} {κ : Nat → ClassId} {a : Nat → Nat}   {Q : Mx → Prop} (Cc : Cx D κ RX3 cX3_step 2 none p s m args meth c) (hIt : Ij a 2)   : ∀ (σ : Mx) (H : Heap) (locs : List Loc) (hPt : va_P D classes (wTp κ a σ) H) (hS : va_S (cA a 2) s.heap H locs) (ls : Array Slot) (hl : lv_has ls 2 [(0, .ref (a 0))]) (h : pX3_step_98 Q σ), W p l e rX3_step s m args below meth c H locs 0 0 (MQ below (QWv Q (fun u H => va_P D classes (wTp κ a u) H) (cA a 2)) args s 0 0 (cA a 2)) (F0 m 98 ls []) := by
  obtain ⟨hx, hb, hml, hown, hts, hr, hlk, hE⟩ := id Cc
  intro σ H locs hPt hS ls hl h
  unfold pX3_step_98 at h
  refine lv_iconst (v := 1) hx hb dX3_step_98 (by decide) ?_
  refine lv_goto (tgt := 103) hx hb dX3_step_99 (by decide) ?_
  exact bX3_step_103 Cc hIt 1 σ _ _ hPt hS _ (lv_sub hl [0] rfl) h
set_option maxHeartbeats 4000000 in
set_option maxRecDepth 100000 in
theorem bX3_step_79 {p : Program} {l : Launch} {e : Env} {s : State} {m : MethodId} {args : Array Value} {below : List Frame} {meth : Method} {c : Code} {D : va_G} {κ : Nat → ClassId} {a : Nat → Nat}   {Q : Mx → Prop} (Cc : Cx D κ RX3 cX3_step 2 none p s m args meth c) (hIt : Ij a 2)   : ∀ (y0 : Int32) (σ : Mx) (H : Heap) (locs : List Loc) (hPt : va_P D classes (wTp κ a σ) H) (hS : va_S (cA a 2) s.heap H locs) (ls : Array Slot) (hl : lv_has ls 2 [(0, .ref (a 0))]) (h : pX3_step_79 Q y0 σ), W p l e rX3_step s m args below meth c H locs 0 0 (MQ below (QWv Q (fun u H => va_P D classes (wTp κ a u) H) (cA a 2)) args s 0 0 (cA a 2)) (F0 m 79 ls [.int y0, .ref (a 0)]) := by
  obtain ⟨hx, hb, hml, hown, hts, hr, hlk, hE⟩ := id Cc
  intro y0 σ H locs hPt hS ls hl h
  unfold pX3_step_79 at h
  refine uTp_4 Cc hPt hIt hS ⟨0, by decide, rfl⟩ (tw_177 hts) dX3_step_79 (fun H1 locs1 hB hS1 hk => ?_)
  have hPt := hB
  have hS := hS1
  refine lv_aload_n hx hb dX3_step_82 rfl (lv_at hl 0 rfl) ?_
  refine gTp_2 Cc hPt (tw_175 hts) dX3_step_83 ?_
  refine lv_iconst (v := 1) hx hb dX3_step_86 (by decide) ?_
  refine lv_icmp_eq (tgt := 98) hx hb dX3_step_87 (by decide) (fun c87 => ?_) (fun c87 => ?_)
  · have h := h.1 c87
    exact bX3_step_98 Cc hIt (st σ 4 0 y0) _ _ hPt hS _ (lv_sub hl [0] rfl) h
  · have h := h.2 c87
    refine lv_aload_n hx hb dX3_step_90 rfl (lv_at hl 0 rfl) ?_
    refine gTp_2 Cc hPt (tw_175 hts) dX3_step_91 ?_
    refine lv_iconst (v := 2) hx hb dX3_step_94 (by decide) ?_
    refine lv_icmp_ne (tgt := 102) hx hb dX3_step_95 (by decide) (fun c95 => ?_) (fun c95 => ?_)
    · have h := h.1 c95
      refine lv_iconst (v := 0) hx hb dX3_step_102 (by decide) ?_
      exact bX3_step_103 Cc hIt 0 (st σ 4 0 y0) _ _ hPt hS _ (lv_sub hl [0] rfl) h
    · have h := h.2 c95
      exact bX3_step_98 Cc hIt (st σ 4 0 y0) _ _ hPt hS _ (lv_sub hl [0] rfl) h
set_option maxHeartbeats 4000000 in
set_option maxRecDepth 100000 in
theorem bX3_step_46 {p : Program} {l : Launch} {e : Env} {s : State} {m : MethodId} {args : Array Value} {below : List Frame} {meth : Method} {c : Code} {D : va_G} {κ : Nat → ClassId} {a : Nat → Nat}   {Q : Mx → Prop} (Cc : Cx D κ RX3 cX3_step 2 none p s m args meth c) (hIt : Ij a 2)   : ∀ (σ : Mx) (H : Heap) (locs : List Loc) (hPt : va_P D classes (wTp κ a σ) H) (hS : va_S (cA a 2) s.heap H locs) (ls : Array Slot) (hl : lv_has ls 2 [(0, .ref (a 0))]) (h : pX3_step_46 Q σ), W p l e rX3_step s m args below meth c H locs 0 0 (MQ below (QWv Q (fun u H => va_P D classes (wTp κ a u) H) (cA a 2)) args s 0 0 (cA a 2)) (F0 m 46 ls []) := by
  obtain ⟨hx, hb, hml, hown, hts, hr, hlk, hE⟩ := id Cc
  intro σ H locs hPt hS ls hl h
  unfold pX3_step_46 at h
  refine lv_aload_n hx hb dX3_step_46 rfl (lv_at hl 0 rfl) ?_
  refine lv_aload_n hx hb dX3_step_47 rfl (lv_at hl 0 rfl) ?_
  refine lv_aload_n hx hb dX3_step_48 rfl (lv_at hl 0 rfl) ?_
  refine gTp_3 Cc hPt (tw_176 hts) dX3_step_49 ?_
  refine kR (kV Cc (mX3_sortAt l D κ a h) (qX3_sortAt hts (tw_571 hts) ⟨(Nat.le_of_ble_eq_true rfl), (Nat.le_of_ble_eq_true rfl)⟩) (va_recv hE.1 hPt (ci := 3) (q0 := 0) rfl rfl) (rest := [.ref (a 0)]) hPt rfl hl.1 rfl (Nat.le_of_ble_eq_true rfl) dX3_step_52 ⟨Nat.zero_le _, Nat.zero_le _⟩) (fun r52 h => ?_)
  refine uTp_2 Cc hPt hIt hS ⟨0, by decide, rfl⟩ (tw_175 hts) dX3_step_55 (fun H1 locs1 hB hS1 hk => ?_)
  have hPt := hB
  have hS := hS1
  refine lv_aload_n hx hb dX3_step_58 rfl (lv_at hl 0 rfl) ?_
  refine lv_aload_n hx hb dX3_step_59 rfl (lv_at hl 0 rfl) ?_
  refine gTp_2 Cc hPt (tw_175 hts) dX3_step_60 ?_
  refine lv_if_ne (tgt := 73) hx hb dX3_step_63 (by decide) (fun c63 => ?_) (fun c63 => ?_)
  · have h := h.1 c63
    refine lv_aload_n hx hb dX3_step_73 rfl (lv_at hl 0 rfl) ?_
    refine gTp_3 Cc hPt (tw_176 hts) dX3_step_74 ?_
    refine lv_iconst (v := 1) hx hb dX3_step_77 (by decide) ?_
    refine lv_iadd hx hb dX3_step_78 ?_
    exact bX3_step_79 Cc hIt (((st σ 2 0 r52) 3 0) + 1) (st σ 2 0 r52) _ _ hPt hS _ (lv_sub hl [0] rfl) h
  · have h := h.2 c63
    refine lv_aload_n hx hb dX3_step_66 rfl (lv_at hl 0 rfl) ?_
    refine gTp_3 Cc hPt (tw_176 hts) dX3_step_67 ?_
    refine lv_goto (tgt := 79) hx hb dX3_step_70 (by decide) ?_
    exact bX3_step_79 Cc hIt ((st σ 2 0 r52) 3 0) (st σ 2 0 r52) _ _ hPt hS _ (lv_sub hl [0] rfl) h
set_option maxHeartbeats 4000000 in
set_option maxRecDepth 100000 in
theorem bX3_step_8 {p : Program} {l : Launch} {e : Env} {s : State} {m : MethodId} {args : Array Value} {below : List Frame} {meth : Method} {c : Code} {D : va_G} {κ : Nat → ClassId} {a : Nat → Nat}   {Q : Mx → Prop} (Cc : Cx D κ RX3 cX3_step 2 none p s m args meth c) (hIt : Ij a 2)   (n : Nat) : ∀ (σ : Mx) (H : Heap) (locs : List Loc) (hPt : va_P D classes (wTp κ a σ) H) (hS : va_S (cA a 2) s.heap H locs) (ls : Array Slot) (hl : lv_has ls 2 [(0, .ref (a 0))]) (h : pX3_step_8 Q n σ), W p l e rX3_step s m args below meth c H locs 0 0 (MQ below (QWv Q (fun u H => va_P D classes (wTp κ a u) H) (cA a 2)) args s 0 0 (cA a 2)) (F0 m 8 ls []) := by
  obtain ⟨hx, hb, hml, hown, hts, hr, hlk, hE⟩ := id Cc
  induction n with
  | zero =>
    intro σ H locs hPt hS ls hl h
    exact absurd h (fun z => z)
  | succ n hih8 =>
    intro σ H locs hPt hS ls hl h
    have h : pX3_step_8s (pX3_step_8 Q n) Q σ := h
    unfold pX3_step_8s at h
    refine lv_aload_n hx hb dX3_step_8 rfl (lv_at hl 0 rfl) ?_
    refine gTp_3 Cc hPt (tw_176 hts) dX3_step_9 ?_
    refine lv_aload_n hx hb dX3_step_12 rfl (lv_at hl 0 rfl) ?_
    refine gTp_1 Cc hPt (tw_173 hts) dX3_step_13 ?_
    refine lv_icmp_ge (tgt := 46) hx hb dX3_step_16 (by decide) (fun c16 => ?_) (fun c16 => ?_)
    · have h := h.1 c16
      exact bX3_step_46 Cc hIt σ _ _ hPt hS _ (lv_sub hl [0] rfl) h
    · have h := h.2 c16
      refine lv_aload_n hx hb dX3_step_19 rfl (lv_at hl 0 rfl) ?_
      refine gTp_0 Cc hPt (tw_172 hts) dX3_step_20 ?_
      refine lv_aload_n hx hb dX3_step_23 rfl (lv_at hl 0 rfl) ?_
      refine gTp_3 Cc hPt (tw_176 hts) dX3_step_24 ?_
      refine lTp_0 Cc hPt h.1 dX3_step_27 ?_
      have h := h.2
      refine lv_bipush (v := 32) hx hb dX3_step_28 (by decide) ?_
      refine lv_icmp_ne (tgt := 46) hx hb dX3_step_30 (by decide) (fun c30 => ?_) (fun c30 => ?_)
      · have h := h.1 c30
        exact bX3_step_46 Cc hIt σ _ _ hPt hS _ (lv_sub hl [0] rfl) h
      · have h := h.2 c30
        refine lv_aload_n hx hb dX3_step_33 rfl (lv_at hl 0 rfl) ?_
        refine lv_dup hx hb dX3_step_34 rfl ?_
        refine gTp_3 Cc hPt (tw_176 hts) dX3_step_35 ?_
        refine lv_iconst (v := 1) hx hb dX3_step_38 (by decide) ?_
        refine lv_iadd hx hb dX3_step_39 ?_
        refine uTp_3 Cc hPt hIt hS ⟨0, by decide, rfl⟩ (tw_176 hts) dX3_step_40 (fun H1 locs1 hB hS1 hk => ?_)
        have hPt := hB
        have hS := hS1
        refine lv_goto (tgt := 8) hx hb dX3_step_43 (by decide) ?_
        exact hih8 (st σ 3 0 ((σ 3 0) + 1)) _ _ hPt hS _ (lv_sub hl [0] rfl) h
set_option maxHeartbeats 4000000 in
set_option maxRecDepth 100000 in
theorem mX3_step (l : Launch) (D : va_G) (κ : Nat → ClassId) (a : Nat → Nat) {σ : Mx}  {Q : Mx → Prop} (hIt : Ij a 2) (h : pX3_step σ  Q) : Met l yX3_step (wz yX3_step cX3_step 2 none) rX3_step (va_Pc [.ref (a 0)] (PE D κ (fun H => va_P D classes (wTp κ a σ) H))) (QWv Q (fun u H => va_P D classes (wTp κ a u) H) (cA a 2)) 0 0 (cA a 2) := by
  refine Met_of l (own := RX3) (by decide) rfl (Nat.le_of_ble_eq_true rfl) (fun p e s m below meth c Cc hPP ls hl => ?_)
  obtain ⟨hx, hb, hml, hown, hts, hr, hlk, hE⟩ := id Cc
  have hl : lv_has ls 2 [(0, .ref (a 0))] := hl
  have hPt := hPP
  have hS : va_S (cA a 2) s.heap s.heap [] := va_S.rf
  unfold pX3_step at h
  refine lv_aload_n hx hb dX3_step_0 rfl (lv_at hl 0 rfl) ?_
  refine lv_aload_n hx hb dX3_step_1 rfl (lv_at hl 0 rfl) ?_
  refine gTp_4 Cc hPt (tw_177 hts) dX3_step_2 ?_
  refine uTp_3 Cc hPt hIt hS ⟨0, by decide, rfl⟩ (tw_176 hts) dX3_step_5 (fun H1 locs1 hB hS1 hk => ?_)
  have hPt := hB
  have hS := hS1
  obtain ⟨n, h⟩ := h
  exact bX3_step_8 Cc hIt n (st σ 3 0 (σ 4 0)) _ _ hPt hS _ (lv_sub hl [0] rfl) h
theorem qX3_step {R : Room} {s : State} {args : Array Value} {own : String} {idx : Nat} (hts : ∀ w ∈ gG, w.before args s = true) (hl : (Cond.methodLink own idx yX3_step).before args s = true) (hR : rX3_step.frames + 1 ≤ R.frames ∧ 8 + (2 + 11) + rX3_step.locals ≤ R.locals) : CallW R s args own RX3 idx yX3_step cX3_step 2 none (wz yX3_step cX3_step 2 none) rX3_step 0 0 0 := ⟨kw 0 hts mw_570 rfl rfl (tw_73 hts) hl (by decide +kernel) hR, tw_569 hts, tw_12 hts⟩
abbrev rX3_valueOfDigits : Room := { frames := 1, cells := 0, slots := 0, locals := 21 }
def pX3_valueOfDigits_7s (σ : Mx) (ih7 : Int32 → Int32 → Prop) (Q : Int32 → Prop) (x1 : Int32) (x2 : Int32) : Prop := ((σ 4 0) ≤ x2 → (Q x1)) ∧ (¬ (σ 4 0) ≤ x2 → (vp_in x2 120 ∧ (∀ v32 : Int32, v32 = (if 10000 < (((10 * x1) + (σ 0 x2.toNatClampNeg)) - 48) then 10000 else (((10 * x1) + (σ 0 x2.toNatClampNeg)) - 48)) → (ih7 v32 (x2 + 1)))))
noncomputable def pX3_valueOfDigits_7 (σ : Mx) (Q : Int32 → Prop) (n : Nat) : Int32 → Int32 → Prop := Nat.rec (motive := fun _ => Int32 → Int32 → Prop) (fun _ _ => False) (fun _ ih => pX3_valueOfDigits_7s σ ih Q) n
def pX3_valueOfDigits (σ : Mx)  (Q : Int32 → Prop) : Prop := ∀ v6 : Int32, v6 = (σ 3 0) → (∃ n, pX3_valueOfDigits_7 σ Q n 0 v6)
set_option maxHeartbeats 4000000 in
set_option maxRecDepth 100000 in
theorem bX3_valueOfDigits_7 {p : Program} {l : Launch} {e : Env} {s : State} {m : MethodId} {args : Array Value} {below : List Frame} {meth : Method} {c : Code} {D : va_G} {κ : Nat → ClassId} {a : Nat → Nat} {σ : Mx}  {Q : Int32 → Prop} (Cc : Cx D κ RX3 cX3_valueOfDigits 3 (some .int) p s m args meth c)  (hPt : va_P D classes (wTp κ a σ) s.heap)  (n : Nat) : ∀ (x1 : Int32) (x2 : Int32) (ls : Array Slot) (hl : lv_has ls 3 [(0, .ref (a 0)), (1, .int x1), (2, .int x2)]) (h : pX3_valueOfDigits_7 σ Q n x1 x2), W p l e rX3_valueOfDigits s m args below meth c s.heap [] 0 0 (MQ below (RQ Q) args s 0 0 (fun _ => False)) (F0 m 7 ls []) := by
  obtain ⟨hx, hb, hml, hown, hts, hr, hlk, hE⟩ := id Cc
  induction n with
  | zero =>
    intro x1 x2 ls hl h
    exact absurd h (fun z => z)
  | succ n hih7 =>
    intro x1 x2 ls hl h
    have h : pX3_valueOfDigits_7s σ (pX3_valueOfDigits_7 σ Q n) Q x1 x2 := h
    unfold pX3_valueOfDigits_7s at h
    refine lv_iload_n hx hb dX3_valueOfDigits_7 rfl (lv_at hl 2 rfl) ?_
    refine lv_aload_n hx hb dX3_valueOfDigits_8 rfl (lv_at hl 0 rfl) ?_
    refine gTp_4 Cc hPt (tw_177 hts) dX3_valueOfDigits_9 ?_
    refine lv_icmp_ge (tgt := 42) hx hb dX3_valueOfDigits_12 (by decide) (fun c12 => ?_) (fun c12 => ?_)
    · have h := h.1 c12
      refine lv_iload_n hx hb dX3_valueOfDigits_42 rfl (lv_at hl 1 rfl) ?_
      exact W.iret (v := x1) hx hb hr (fun t ht _ => RQ.mk h ht) (fun _ h9 => by cases h9) dX3_valueOfDigits_43 (hlocks := hlk)
    · have h := h.2 c12
      refine lv_bipush (v := 10) hx hb dX3_valueOfDigits_15 (by decide) ?_
      refine lv_iload_n hx hb dX3_valueOfDigits_17 rfl (lv_at hl 1 rfl) ?_
      refine lv_imul hx hb dX3_valueOfDigits_18 ?_
      refine lv_aload_n hx hb dX3_valueOfDigits_19 rfl (lv_at hl 0 rfl) ?_
      refine gTp_0 Cc hPt (tw_172 hts) dX3_valueOfDigits_20 ?_
      refine lv_iload_n hx hb dX3_valueOfDigits_23 rfl (lv_at hl 2 rfl) ?_
      refine lTp_0 Cc hPt h.1 dX3_valueOfDigits_24 ?_
      have h := h.2
      refine lv_iadd hx hb dX3_valueOfDigits_25 ?_
      refine lv_bipush (v := 48) hx hb dX3_valueOfDigits_26 (by decide) ?_
      refine lv_isub hx hb dX3_valueOfDigits_28 ?_
      refine lv_sipush (v := 10000) hx hb dX3_valueOfDigits_29 (by decide) ?_
      refine va_mmin hx hb (hml.trans hl.1.symm) hown (tw_657 hts) (tw_417 hts) (tw_76 hts) (tw_418 hts) (Nat.le_of_ble_eq_true rfl) (Nat.le_of_ble_eq_true rfl) (Nat.zero_le _) (Nat.zero_le _) dX3_valueOfDigits_32 ?_
      refine lv_topi (fun v32 e32 => ?_)
      have h := h v32 e32
      refine lv_istore_n (lv' := [(1, .int v32), (0, .ref (a 0)), (2, .int x2)]) hx hb dX3_valueOfDigits_35 rfl hl (by decide) rfl (fun ls hl => ?_)
      refine lv_iinc (v := (x2 + 1)) (lv' := [(2, .int (x2 + 1)), (1, .int v32), (0, .ref (a 0))]) hx hb dX3_valueOfDigits_36 hl (k := 2) rfl rfl (by decide) rfl (fun ls hl => ?_)
      refine lv_goto (tgt := 7) hx hb dX3_valueOfDigits_39 (by decide) ?_
      exact hih7 v32 (x2 + 1)  _ (lv_sub hl [2, 1, 0] rfl) h
set_option maxHeartbeats 4000000 in
set_option maxRecDepth 100000 in
theorem mX3_valueOfDigits (l : Launch) (D : va_G) (κ : Nat → ClassId) (a : Nat → Nat) {σ : Mx}  {Q : Int32 → Prop}  (h : pX3_valueOfDigits σ  Q) : Met l yX3_valueOfDigits (wz yX3_valueOfDigits cX3_valueOfDigits 3 (some .int)) rX3_valueOfDigits (va_Pc [.ref (a 0)] (PE D κ (fun H => va_P D classes (wTp κ a σ) H))) (RQ Q) 0 0 (fun _ => False) := by
  refine Met_of l (own := RX3) (by decide) rfl (Nat.le_of_ble_eq_true rfl) (fun p e s m below meth c Cc hPP ls hl => ?_)
  obtain ⟨hx, hb, hml, hown, hts, hr, hlk, hE⟩ := id Cc
  have hl : lv_has ls 3 [(0, .ref (a 0))] := hl
  have hPt := hPP
  unfold pX3_valueOfDigits at h
  refine lv_iconst (v := 0) hx hb dX3_valueOfDigits_0 (by decide) ?_
  refine lv_istore_n (lv' := [(1, .int 0), (0, .ref (a 0))]) hx hb dX3_valueOfDigits_1 rfl hl (by decide) rfl (fun ls hl => ?_)
  refine lv_aload_n hx hb dX3_valueOfDigits_2 rfl (lv_at hl 1 rfl) ?_
  refine gTp_3 Cc hPt (tw_176 hts) dX3_valueOfDigits_3 ?_
  refine lv_topi (fun v6 e6 => ?_)
  have h := h v6 e6
  refine lv_istore_n (lv' := [(2, .int v6), (1, .int 0), (0, .ref (a 0))]) hx hb dX3_valueOfDigits_6 rfl hl (by decide) rfl (fun ls hl => ?_)
  obtain ⟨n, h⟩ := h
  exact bX3_valueOfDigits_7 Cc hPt n 0 v6  _ (lv_sub hl [2, 1, 0] rfl) h
theorem qX3_valueOfDigits {R : Room} {s : State} {args : Array Value} {own : String} {idx : Nat} (hts : ∀ w ∈ gG, w.before args s = true) (hl : (Cond.methodLink own idx yX3_valueOfDigits).before args s = true) (hR : rX3_valueOfDigits.frames + 1 ≤ R.frames ∧ 8 + (3 + 11) + rX3_valueOfDigits.locals ≤ R.locals) : CallW R s args own RX3 idx yX3_valueOfDigits cX3_valueOfDigits 3 (some .int) (wz yX3_valueOfDigits cX3_valueOfDigits 3 (some .int)) rX3_valueOfDigits 0 0 0 := ⟨kw 0 hts mw_656 rfl rfl (tw_73 hts) hl (by decide +kernel) hR, tw_655 hts, tw_19 hts⟩
abbrev rX3_readNumber : Room := { frames := 2, cells := 0, slots := 0, locals := 43 }
def pX3_readNumber_18 (Q : Int32 → Mx → Prop) (x1 : Int32) (y0 : Int32) (σ : Mx) : Prop := (y0 ≤ x1 → (pX3_step σ (fun u27 => (Q y0 u27)))) ∧ (¬ y0 ≤ x1 → (Q (-1) σ))
def pX3_readNumber (σ : Mx) (x1 : Int32) (Q : Int32 → Mx → Prop) : Prop := (¬ (σ 2 0) = 2 → (pX3_readNumber_18 Q x1 10000 σ)) ∧ ((σ 2 0) = 2 → (pX3_valueOfDigits σ (fun r9 => (pX3_readNumber_18 Q x1 r9 σ))))
set_option maxHeartbeats 4000000 in
set_option maxRecDepth 100000 in
theorem bX3_readNumber_18 {p : Program} {l : Launch} {e : Env} {s : State} {m : MethodId} {args : Array Value} {below : List Frame} {meth : Method} {c : Code} {D : va_G} {κ : Nat → ClassId} {a : Nat → Nat}   {Q : Int32 → Mx → Prop} (Cc : Cx D κ RX3 cX3_readNumber 3 (some .int) p s m args meth c) (hIt : Ij a 2)   : ∀ (x1 : Int32) (y0 : Int32) (σ : Mx) (H : Heap) (locs : List Loc) (hPt : va_P D classes (wTp κ a σ) H) (hS : va_S (cA a 2) s.heap H locs) (ls : Array Slot) (hl : lv_has ls 3 [(0, .ref (a 0)), (1, .int x1)]) (h : pX3_readNumber_18 Q x1 y0 σ), W p l e rX3_readNumber s m args below meth c H locs 0 0 (MQ below (QWi Q (fun u H => va_P D classes (wTp κ a u) H) (cA a 2)) args s 0 0 (cA a 2)) (F0 m 18 ls [.int y0]) := by
  obtain ⟨hx, hb, hml, hown, hts, hr, hlk, hE⟩ := id Cc
  intro x1 y0 σ H locs hPt hS ls hl h
  unfold pX3_readNumber_18 at h
  refine lv_istore_n (lv' := [(2, .int y0), (0, .ref (a 0)), (1, .int x1)]) hx hb dX3_readNumber_18 rfl hl (by decide) rfl (fun ls hl => ?_)
  refine lv_iload_n hx hb dX3_readNumber_19 rfl (lv_at hl 0 rfl) ?_
  refine lv_iload_n hx hb dX3_readNumber_20 rfl (lv_at hl 2 rfl) ?_
  refine lv_icmp_le (tgt := 26) hx hb dX3_readNumber_21 (by decide) (fun c21 => ?_) (fun c21 => ?_)
  · have h := h.1 c21
    refine lv_aload_n hx hb dX3_readNumber_26 rfl (lv_at hl 1 rfl) ?_
    refine kWv (kV Cc (mX3_step l D κ a hIt h) (qX3_step hts (tw_567 hts) ⟨(Nat.le_of_ble_eq_true rfl), (Nat.le_of_ble_eq_true rfl)⟩) (va_recv hE.1 hPt (ci := 3) (q0 := 0) rfl rfl) (rest := []) hPt rfl hl.1 rfl (Nat.le_of_ble_eq_true rfl) dX3_readNumber_27 ⟨Nat.zero_le _, Nat.zero_le _⟩) hS (fun q h9 => h9) (fun  u27 H1 locs1 h hB hk hS1 => ?_)
    have hPt := hB
    have hS := hS1
    refine lv_iload_n hx hb dX3_readNumber_30 rfl (lv_at hl 0 rfl) ?_
    exact W.iret (v := y0) hx hb hr (fun t ht _ => QWi.mk (u := u27) h hPt hS ht) hS.2.2 dX3_readNumber_31 (hlocks := hlk)
  · have h := h.2 c21
    refine lv_iconst (v := (-1)) hx hb dX3_readNumber_24 (by decide) ?_
    exact W.iret (v := (-1)) hx hb hr (fun t ht _ => QWi.mk (u := σ) h hPt hS ht) hS.2.2 dX3_readNumber_25 (hlocks := hlk)
set_option maxHeartbeats 4000000 in
set_option maxRecDepth 100000 in
theorem mX3_readNumber (l : Launch) (D : va_G) (κ : Nat → ClassId) (a : Nat → Nat) {σ : Mx} {x1 : Int32} {Q : Int32 → Mx → Prop} (hIt : Ij a 2) (h : pX3_readNumber σ x1 Q) : Met l yX3_readNumber (wz yX3_readNumber cX3_readNumber 3 (some .int)) rX3_readNumber (va_Pc [.ref (a 0), .int x1] (PE D κ (fun H => va_P D classes (wTp κ a σ) H))) (QWi Q (fun u H => va_P D classes (wTp κ a u) H) (cA a 2)) 0 0 (cA a 2) := by
  refine Met_of l (own := RX3) (by decide) rfl (Nat.le_of_ble_eq_true rfl) (fun p e s m below meth c Cc hPP ls hl => ?_)
  obtain ⟨hx, hb, hml, hown, hts, hr, hlk, hE⟩ := id Cc
  have hl : lv_has ls 3 [(0, .ref (a 0)), (1, .int x1)] := hl
  have hPt := hPP
  have hS : va_S (cA a 2) s.heap s.heap [] := va_S.rf
  unfold pX3_readNumber at h
  refine lv_aload_n hx hb dX3_readNumber_0 rfl (lv_at hl 0 rfl) ?_
  refine gTp_2 Cc hPt (tw_175 hts) dX3_readNumber_1 ?_
  refine lv_iconst (v := 2) hx hb dX3_readNumber_4 (by decide) ?_
  refine lv_icmp_ne (tgt := 15) hx hb dX3_readNumber_5 (by decide) (fun c5 => ?_) (fun c5 => ?_)
  · have h := h.1 c5
    refine lv_sipush (v := 10000) hx hb dX3_readNumber_15 (by decide) ?_
    exact bX3_readNumber_18 Cc hIt x1 10000 σ _ _ hPt hS _ (lv_sub hl [0, 1] rfl) h
  · have h := h.2 c5
    refine lv_aload_n hx hb dX3_readNumber_8 rfl (lv_at hl 0 rfl) ?_
    refine kR (kV Cc (mX3_valueOfDigits l D κ a h) (qX3_valueOfDigits hts (tw_653 hts) ⟨(Nat.le_of_ble_eq_true rfl), (Nat.le_of_ble_eq_true rfl)⟩) (va_recv hE.1 hPt (ci := 3) (q0 := 0) rfl rfl) (rest := []) hPt rfl hl.1 rfl (Nat.le_of_ble_eq_true rfl) dX3_readNumber_9 ⟨Nat.zero_le _, Nat.zero_le _⟩) (fun r9 h => ?_)
    refine lv_goto (tgt := 18) hx hb dX3_readNumber_12 (by decide) ?_
    exact bX3_readNumber_18 Cc hIt x1 r9 σ _ _ hPt hS _ (lv_sub hl [0, 1] rfl) h
theorem qX3_readNumber {R : Room} {s : State} {args : Array Value} {own : String} {idx : Nat} (hts : ∀ w ∈ gG, w.before args s = true) (hl : (Cond.methodLink own idx yX3_readNumber).before args s = true) (hR : rX3_readNumber.frames + 1 ≤ R.frames ∧ 8 + (3 + 11) + rX3_readNumber.locals ≤ R.locals) : CallW R s args own RX3 idx yX3_readNumber cX3_readNumber 3 (some .int) (wz yX3_readNumber cX3_readNumber 3 (some .int)) rX3_readNumber 0 0 1 := ⟨kw 1 hts mw_652 rfl rfl (tw_73 hts) hl (by decide +kernel) hR, tw_651 hts, tw_18 hts⟩
abbrev rX3_readSwap : Room := { frames := 3, cells := 0, slots := 0, locals := 65 }
def pX3_readSwap_39 (Q : Int32 → Mx → Mx → Prop) (x2 : Int32) (x3 : Int32) (y0 : Int32) (σ : Mx) (σ2 : Mx) : Prop := (0 ≤ y0 → (vp_in x2 6 ∧ (Q 1 σ (st σ2 5 x2.toNatClampNeg ((10 * x3) + y0))))) ∧ (¬ 0 ≤ y0 → (Q 0 σ σ2))
def pX3_readSwap_24 (Q : Int32 → Mx → Mx → Prop) (x2 : Int32) (y0 : Int32) (σ : Mx) (σ2 : Mx) : Prop := (0 ≤ y0 → (pX3_readNumber σ 7 (fun r36 u36 => (pX3_readSwap_39 Q x2 y0 r36 u36 σ2)))) ∧ (¬ 0 ≤ y0 → (pX3_readSwap_39 Q x2 y0 (-1) σ σ2))
def pX3_readSwap (σ : Mx) (σ2 : Mx)  (Q : Int32 → Mx → Mx → Prop) : Prop := pX3_step σ (fun u1 => (pX3_readNumber u1 5 (fun r6 u6 => ((0 ≤ r6 → (pX3_readNumber u6 7 (fun r21 u21 => (pX3_readSwap_24 Q r6 r21 u21 σ2)))) ∧ (¬ 0 ≤ r6 → (pX3_readSwap_24 Q r6 (-1) u6 σ2))))))
set_option maxHeartbeats 4000000 in
set_option maxRecDepth 100000 in
theorem bX3_readSwap_39 {p : Program} {l : Launch} {e : Env} {s : State} {m : MethodId} {args : Array Value} {below : List Frame} {meth : Method} {c : Code} {D : va_G} {κ : Nat → ClassId} {a : Nat → Nat} {a2 : Nat → Nat}   {Q : Int32 → Mx → Mx → Prop} (Cc : Cx D κ RX3 cX3_readSwap 5 (some .boolean) p s m args meth c) (hIt : Ij a 2) (hIu : Ij a2 8) (hDj : Dj a 2 a2 8)   : ∀ (x2 : Int32) (x3 : Int32) (y0 : Int32) (σ : Mx) (σ2 : Mx) (H : Heap) (locs : List Loc) (hPt : va_P D classes (wTp κ a σ) H) (hPu : va_P D classes (wCo κ a2 σ2) H) (hS : va_S (fun q => cA a 2 q ∨ cA a2 8 q) s.heap H locs) (ls : Array Slot) (hl : lv_has ls 5 [(1, .ref (a2 0)), (2, .int x2), (3, .int x3)]) (h : pX3_readSwap_39 Q x2 x3 y0 σ σ2), W p l e rX3_readSwap s m args below meth c H locs 0 0 (MQ below (QWi (fun (r : Int32) (u : Mx × Mx) => Q r u.1 u.2) (fun (u : Mx × Mx) H => va_P D classes (wTp κ a u.1) H ∧ va_P D classes (wCo κ a2 u.2) H) (fun q => cA a 2 q ∨ cA a2 8 q)) args s 0 0 (fun q => cA a 2 q ∨ cA a2 8 q)) (F0 m 39 ls [.int y0]) := by
  obtain ⟨hx, hb, hml, hown, hts, hr, hlk, hE⟩ := id Cc
  intro x2 x3 y0 σ σ2 H locs hPt hPu hS ls hl h
  unfold pX3_readSwap_39 at h
  refine lv_istore (lv' := [(4, .int y0), (1, .ref (a2 0)), (2, .int x2), (3, .int x3)]) hx hb dX3_readSwap_39 hl (by decide) rfl (fun ls hl => ?_)
  refine lv_iload hx hb dX3_readSwap_41 (lv_at hl 0 rfl) ?_
  refine lv_if_ge (tgt := 48) hx hb dX3_readSwap_43 (by decide) (fun c43 => ?_) (fun c43 => ?_)
  · have h := h.1 c43
    refine lv_aload_n hx hb dX3_readSwap_48 rfl (lv_at hl 1 rfl) ?_
    refine gCo_5 Cc hPu (tw_109 hts) dX3_readSwap_49 ?_
    refine lv_iload_n hx hb dX3_readSwap_52 rfl (lv_at hl 2 rfl) ?_
    refine lv_bipush (v := 10) hx hb dX3_readSwap_53 (by decide) ?_
    refine lv_iload_n hx hb dX3_readSwap_55 rfl (lv_at hl 3 rfl) ?_
    refine lv_imul hx hb dX3_readSwap_56 ?_
    refine lv_iload hx hb dX3_readSwap_57 (lv_at hl 0 rfl) ?_
    refine lv_iadd hx hb dX3_readSwap_59 ?_
    refine sCo_5 Cc hPu hIu hS (Or.inr ⟨6, by decide, rfl⟩) h.1 dX3_readSwap_60 (fun H1 locs1 hB hS1 hk => ?_)
    have h := h.2
    have hPt := kp1 wTp_wl hPt hDj.symm (i0 := 6) (by decide) hk
    have hPu := hB
    have hS := hS1
    refine lv_iconst (v := 1) hx hb dX3_readSwap_61 (by decide) ?_
    exact W.zret (v := 1) (ty := .boolean) hx hb hr rfl (fun t ht _ => QWi.mk (u := (σ, (st σ2 5 x2.toNatClampNeg ((10 * x3) + y0)))) h ⟨hPt, hPu⟩ hS ht) hS.2.2 dX3_readSwap_62 (hlocks := hlk)
  · have h := h.2 c43
    refine lv_iconst (v := 0) hx hb dX3_readSwap_46 (by decide) ?_
    exact W.zret (v := 0) (ty := .boolean) hx hb hr rfl (fun t ht _ => QWi.mk (u := (σ, σ2)) h ⟨hPt, hPu⟩ hS ht) hS.2.2 dX3_readSwap_47 (hlocks := hlk)
set_option maxHeartbeats 4000000 in
set_option maxRecDepth 100000 in
theorem bX3_readSwap_24 {p : Program} {l : Launch} {e : Env} {s : State} {m : MethodId} {args : Array Value} {below : List Frame} {meth : Method} {c : Code} {D : va_G} {κ : Nat → ClassId} {a : Nat → Nat} {a2 : Nat → Nat}   {Q : Int32 → Mx → Mx → Prop} (Cc : Cx D κ RX3 cX3_readSwap 5 (some .boolean) p s m args meth c) (hIt : Ij a 2) (hIu : Ij a2 8) (hDj : Dj a 2 a2 8)   : ∀ (x2 : Int32) (y0 : Int32) (σ : Mx) (σ2 : Mx) (H : Heap) (locs : List Loc) (hPt : va_P D classes (wTp κ a σ) H) (hPu : va_P D classes (wCo κ a2 σ2) H) (hS : va_S (fun q => cA a 2 q ∨ cA a2 8 q) s.heap H locs) (ls : Array Slot) (hl : lv_has ls 5 [(0, .ref (a 0)), (1, .ref (a2 0)), (2, .int x2)]) (h : pX3_readSwap_24 Q x2 y0 σ σ2), W p l e rX3_readSwap s m args below meth c H locs 0 0 (MQ below (QWi (fun (r : Int32) (u : Mx × Mx) => Q r u.1 u.2) (fun (u : Mx × Mx) H => va_P D classes (wTp κ a u.1) H ∧ va_P D classes (wCo κ a2 u.2) H) (fun q => cA a 2 q ∨ cA a2 8 q)) args s 0 0 (fun q => cA a 2 q ∨ cA a2 8 q)) (F0 m 24 ls [.int y0]) := by
  obtain ⟨hx, hb, hml, hown, hts, hr, hlk, hE⟩ := id Cc
  intro x2 y0 σ σ2 H locs hPt hPu hS ls hl h
  unfold pX3_readSwap_24 at h
  refine lv_istore_n (lv' := [(3, .int y0), (0, .ref (a 0)), (1, .ref (a2 0)), (2, .int x2)]) hx hb dX3_readSwap_24 rfl hl (by decide) rfl (fun ls hl => ?_)
  refine lv_iload_n hx hb dX3_readSwap_25 rfl (lv_at hl 0 rfl) ?_
  refine lv_if_ge (tgt := 33) hx hb dX3_readSwap_26 (by decide) (fun c26 => ?_) (fun c26 => ?_)
  · have h := h.1 c26
    refine lv_aload_n hx hb dX3_readSwap_33 rfl (lv_at hl 1 rfl) ?_
    refine lv_bipush (v := 7) hx hb dX3_readSwap_34 (by decide) ?_
    refine kWi (kV Cc (mX3_readNumber l D κ a hIt h) (qX3_readNumber hts (tw_649 hts) ⟨(Nat.le_of_ble_eq_true rfl), (Nat.le_of_ble_eq_true rfl)⟩) (va_recv hE.1 hPt (ci := 3) (q0 := 0) rfl rfl) (rest := []) hPt rfl hl.1 rfl (Nat.le_of_ble_eq_true rfl) dX3_readSwap_36 ⟨Nat.zero_le _, Nat.zero_le _⟩) hS (fun q h9 => Or.inl h9) (fun r36 u36 H1 locs1 h hB hk hS1 => ?_)
    have hPu := kpF wCo_wl hPu hDj hk
    have hPt := hB
    have hS := hS1
    exact bX3_readSwap_39 Cc hIt hIu hDj x2 y0 r36 u36 σ2 _ _ hPt hPu hS _ (lv_sub hl [2, 3, 0] rfl) h
  · have h := h.2 c26
    refine lv_iconst (v := (-1)) hx hb dX3_readSwap_29 (by decide) ?_
    refine lv_goto (tgt := 39) hx hb dX3_readSwap_30 (by decide) ?_
    exact bX3_readSwap_39 Cc hIt hIu hDj x2 y0 (-1) σ σ2 _ _ hPt hPu hS _ (lv_sub hl [2, 3, 0] rfl) h
set_option maxHeartbeats 4000000 in
set_option maxRecDepth 100000 in
theorem mX3_readSwap (l : Launch) (D : va_G) (κ : Nat → ClassId) (a : Nat → Nat) (a2 : Nat → Nat) {σ : Mx} {σ2 : Mx}  {Q : Int32 → Mx → Mx → Prop} (hIt : Ij a 2) (hIu : Ij a2 8) (hDj : Dj a 2 a2 8) (h : pX3_readSwap σ σ2  Q) : Met l yX3_readSwap (wz yX3_readSwap cX3_readSwap 5 (some .boolean)) rX3_readSwap (va_Pc [.ref (a 0), .ref (a2 0)] (PE D κ (fun H => va_P D classes (wTp κ a σ) H ∧ va_P D classes (wCo κ a2 σ2) H))) (QWi (fun (r : Int32) (u : Mx × Mx) => Q r u.1 u.2) (fun (u : Mx × Mx) H => va_P D classes (wTp κ a u.1) H ∧ va_P D classes (wCo κ a2 u.2) H) (fun q => cA a 2 q ∨ cA a2 8 q)) 0 0 (fun q => cA a 2 q ∨ cA a2 8 q) := by
  refine Met_of l (own := RX3) (by decide) rfl (Nat.le_of_ble_eq_true rfl) (fun p e s m below meth c Cc hPP ls hl => ?_)
  obtain ⟨hx, hb, hml, hown, hts, hr, hlk, hE⟩ := id Cc
  have hl : lv_has ls 5 [(0, .ref (a 0)), (1, .ref (a2 0))] := hl
  obtain ⟨hPt, hPu⟩ := hPP
  have hS : va_S (fun q => cA a 2 q ∨ cA a2 8 q) s.heap s.heap [] := va_S.rf
  unfold pX3_readSwap at h
  refine lv_aload_n hx hb dX3_readSwap_0 rfl (lv_at hl 0 rfl) ?_
  refine kWv (kV Cc (mX3_step l D κ a hIt h) (qX3_step hts (tw_567 hts) ⟨(Nat.le_of_ble_eq_true rfl), (Nat.le_of_ble_eq_true rfl)⟩) (va_recv hE.1 hPt (ci := 3) (q0 := 0) rfl rfl) (rest := []) hPt rfl hl.1 rfl (Nat.le_of_ble_eq_true rfl) dX3_readSwap_1 ⟨Nat.zero_le _, Nat.zero_le _⟩) hS (fun q h9 => Or.inl h9) (fun  u1 H1 locs1 h hB hk hS1 => ?_)
  have hPu := kpF wCo_wl hPu hDj hk
  have hPt := hB
  have hS := hS1
  refine lv_aload_n hx hb dX3_readSwap_4 rfl (lv_at hl 0 rfl) ?_
  refine lv_iconst (v := 5) hx hb dX3_readSwap_5 (by decide) ?_
  refine kWi (kV Cc (mX3_readNumber l D κ a hIt h) (qX3_readNumber hts (tw_649 hts) ⟨(Nat.le_of_ble_eq_true rfl), (Nat.le_of_ble_eq_true rfl)⟩) (va_recv hE.1 hPt (ci := 3) (q0 := 0) rfl rfl) (rest := []) hPt rfl hl.1 rfl (Nat.le_of_ble_eq_true rfl) dX3_readSwap_6 ⟨Nat.zero_le _, Nat.zero_le _⟩) hS (fun q h9 => Or.inl h9) (fun r6 u6 H1 locs1 h hB hk hS1 => ?_)
  have hPu := kpF wCo_wl hPu hDj hk
  have hPt := hB
  have hS := hS1
  refine lv_istore_n (lv' := [(2, .int r6), (0, .ref (a 0)), (1, .ref (a2 0))]) hx hb dX3_readSwap_9 rfl hl (by decide) rfl (fun ls hl => ?_)
  refine lv_iload_n hx hb dX3_readSwap_10 rfl (lv_at hl 0 rfl) ?_
  refine lv_if_ge (tgt := 18) hx hb dX3_readSwap_11 (by decide) (fun c11 => ?_) (fun c11 => ?_)
  · have h := h.1 c11
    refine lv_aload_n hx hb dX3_readSwap_18 rfl (lv_at hl 1 rfl) ?_
    refine lv_bipush (v := 7) hx hb dX3_readSwap_19 (by decide) ?_
    refine kWi (kV Cc (mX3_readNumber l D κ a hIt h) (qX3_readNumber hts (tw_649 hts) ⟨(Nat.le_of_ble_eq_true rfl), (Nat.le_of_ble_eq_true rfl)⟩) (va_recv hE.1 hPt (ci := 3) (q0 := 0) rfl rfl) (rest := []) hPt rfl hl.1 rfl (Nat.le_of_ble_eq_true rfl) dX3_readSwap_21 ⟨Nat.zero_le _, Nat.zero_le _⟩) hS (fun q h9 => Or.inl h9) (fun r21 u21 H1 locs1 h hB hk hS1 => ?_)
    have hPu := kpF wCo_wl hPu hDj hk
    have hPt := hB
    have hS := hS1
    exact bX3_readSwap_24 Cc hIt hIu hDj r6 r21 u21 σ2 _ _ hPt hPu hS _ (lv_sub hl [1, 2, 0] rfl) h
  · have h := h.2 c11
    refine lv_iconst (v := (-1)) hx hb dX3_readSwap_14 (by decide) ?_
    refine lv_goto (tgt := 24) hx hb dX3_readSwap_15 (by decide) ?_
    exact bX3_readSwap_24 Cc hIt hIu hDj r6 (-1) u6 σ2 _ _ hPt hPu hS _ (lv_sub hl [1, 2, 0] rfl) h
theorem qX3_readSwap {R : Room} {s : State} {args : Array Value} {own : String} {idx : Nat} (hts : ∀ w ∈ gG, w.before args s = true) (hl : (Cond.methodLink own idx yX3_readSwap).before args s = true) (hR : rX3_readSwap.frames + 1 ≤ R.frames ∧ 8 + (5 + 11) + rX3_readSwap.locals ≤ R.locals) : CallW R s args own RX3 idx yX3_readSwap cX3_readSwap 5 (some .boolean) (wz yX3_readSwap cX3_readSwap 5 (some .boolean)) rX3_readSwap 0 0 1 := ⟨kw 1 hts mw_665 rfl rfl (tw_73 hts) hl (by decide +kernel) hR, tw_664 hts, tw_20 hts⟩
abbrev rX3_readLay : Room := { frames := 3, cells := 0, slots := 0, locals := 65 }
def pX3_readLay_33 (Q : Int32 → Mx → Mx → Prop) (x2 : Int32) (y0 : Int32) (σ : Mx) (σ2 : Mx) : Prop := (0 ≤ y0 → (pX1_exchange σ2 x2 y0 (fun u43 => (Q 1 σ u43)))) ∧ (¬ 0 ≤ y0 → (Q 0 σ σ2))
def pX3_readLay (σ : Mx) (σ2 : Mx)  (Q : Int32 → Mx → Mx → Prop) : Prop := pX3_step σ (fun u1 => (pX3_readNumber u1 ((σ2 8 0) - 1) (fun r11 u11 => ((0 ≤ r11 → (pX3_readNumber u11 ((σ2 8 0) - 1) (fun r30 u30 => (pX3_readLay_33 Q r11 r30 u30 σ2)))) ∧ (¬ 0 ≤ r11 → (pX3_readLay_33 Q r11 (-1) u11 σ2))))))
set_option maxHeartbeats 4000000 in
set_option maxRecDepth 100000 in
theorem bX3_readLay_33 {p : Program} {l : Launch} {e : Env} {s : State} {m : MethodId} {args : Array Value} {below : List Frame} {meth : Method} {c : Code} {D : va_G} {κ : Nat → ClassId} {a : Nat → Nat} {a2 : Nat → Nat}   {Q : Int32 → Mx → Mx → Prop} (Cc : Cx D κ RX3 cX3_readLay 4 (some .boolean) p s m args meth c) (hIt : Ij a 2) (hIu : Ij a2 8) (hDj : Dj a 2 a2 8)   : ∀ (x2 : Int32) (y0 : Int32) (σ : Mx) (σ2 : Mx) (H : Heap) (locs : List Loc) (hPt : va_P D classes (wTp κ a σ) H) (hPu : va_P D classes (wCo κ a2 σ2) H) (hS : va_S (fun q => cA a 2 q ∨ cA a2 8 q) s.heap H locs) (ls : Array Slot) (hl : lv_has ls 4 [(1, .ref (a2 0)), (2, .int x2)]) (h : pX3_readLay_33 Q x2 y0 σ σ2), W p l e rX3_readLay s m args below meth c H locs 0 0 (MQ below (QWi (fun (r : Int32) (u : Mx × Mx) => Q r u.1 u.2) (fun (u : Mx × Mx) H => va_P D classes (wTp κ a u.1) H ∧ va_P D classes (wCo κ a2 u.2) H) (fun q => cA a 2 q ∨ cA a2 8 q)) args s 0 0 (fun q => cA a 2 q ∨ cA a2 8 q)) (F0 m 33 ls [.int y0]) := by
  obtain ⟨hx, hb, hml, hown, hts, hr, hlk, hE⟩ := id Cc
  intro x2 y0 σ σ2 H locs hPt hPu hS ls hl h
  unfold pX3_readLay_33 at h
  refine lv_istore_n (lv' := [(3, .int y0), (1, .ref (a2 0)), (2, .int x2)]) hx hb dX3_readLay_33 rfl hl (by decide) rfl (fun ls hl => ?_)
  refine lv_iload_n hx hb dX3_readLay_34 rfl (lv_at hl 0 rfl) ?_
  refine lv_if_ge (tgt := 40) hx hb dX3_readLay_35 (by decide) (fun c35 => ?_) (fun c35 => ?_)
  · have h := h.1 c35
    refine lv_aload_n hx hb dX3_readLay_40 rfl (lv_at hl 1 rfl) ?_
    refine lv_iload_n hx hb dX3_readLay_41 rfl (lv_at hl 2 rfl) ?_
    refine lv_iload_n hx hb dX3_readLay_42 rfl (lv_at hl 0 rfl) ?_
    refine kWv (kV Cc (mX1_exchange l D κ a2 hIu h) (qX1_exchange hts (tw_671 hts) ⟨(Nat.le_of_ble_eq_true rfl), (Nat.le_of_ble_eq_true rfl)⟩) (va_recv hE.1 hPu (ci := 1) (q0 := 0) rfl rfl) (rest := []) hPu rfl hl.1 rfl (Nat.le_of_ble_eq_true rfl) dX3_readLay_43 ⟨Nat.zero_le _, Nat.zero_le _⟩) hS (fun q h9 => Or.inr h9) (fun  u43 H1 locs1 h hB hk hS1 => ?_)
    have hPt := kpF wTp_wl hPt hDj.symm hk
    have hPu := hB
    have hS := hS1
    refine lv_iconst (v := 1) hx hb dX3_readLay_46 (by decide) ?_
    exact W.zret (v := 1) (ty := .boolean) hx hb hr rfl (fun t ht _ => QWi.mk (u := (σ, u43)) h ⟨hPt, hPu⟩ hS ht) hS.2.2 dX3_readLay_47 (hlocks := hlk)
  · have h := h.2 c35
    refine lv_iconst (v := 0) hx hb dX3_readLay_38 (by decide) ?_
    exact W.zret (v := 0) (ty := .boolean) hx hb hr rfl (fun t ht _ => QWi.mk (u := (σ, σ2)) h ⟨hPt, hPu⟩ hS ht) hS.2.2 dX3_readLay_39 (hlocks := hlk)
set_option maxHeartbeats 4000000 in
set_option maxRecDepth 100000 in
theorem mX3_readLay (l : Launch) (D : va_G) (κ : Nat → ClassId) (a : Nat → Nat) (a2 : Nat → Nat) {σ : Mx} {σ2 : Mx}  {Q : Int32 → Mx → Mx → Prop} (hIt : Ij a 2) (hIu : Ij a2 8) (hDj : Dj a 2 a2 8) (h : pX3_readLay σ σ2  Q) : Met l yX3_readLay (wz yX3_readLay cX3_readLay 4 (some .boolean)) rX3_readLay (va_Pc [.ref (a 0), .ref (a2 0)] (PE D κ (fun H => va_P D classes (wTp κ a σ) H ∧ va_P D classes (wCo κ a2 σ2) H))) (QWi (fun (r : Int32) (u : Mx × Mx) => Q r u.1 u.2) (fun (u : Mx × Mx) H => va_P D classes (wTp κ a u.1) H ∧ va_P D classes (wCo κ a2 u.2) H) (fun q => cA a 2 q ∨ cA a2 8 q)) 0 0 (fun q => cA a 2 q ∨ cA a2 8 q) := by
  refine Met_of l (own := RX3) (by decide) rfl (Nat.le_of_ble_eq_true rfl) (fun p e s m below meth c Cc hPP ls hl => ?_)
  obtain ⟨hx, hb, hml, hown, hts, hr, hlk, hE⟩ := id Cc
  have hl : lv_has ls 4 [(0, .ref (a 0)), (1, .ref (a2 0))] := hl
  obtain ⟨hPt, hPu⟩ := hPP
  have hS : va_S (fun q => cA a 2 q ∨ cA a2 8 q) s.heap s.heap [] := va_S.rf
  unfold pX3_readLay at h
  refine lv_aload_n hx hb dX3_readLay_0 rfl (lv_at hl 0 rfl) ?_
  refine kWv (kV Cc (mX3_step l D κ a hIt h) (qX3_step hts (tw_567 hts) ⟨(Nat.le_of_ble_eq_true rfl), (Nat.le_of_ble_eq_true rfl)⟩) (va_recv hE.1 hPt (ci := 3) (q0 := 0) rfl rfl) (rest := []) hPt rfl hl.1 rfl (Nat.le_of_ble_eq_true rfl) dX3_readLay_1 ⟨Nat.zero_le _, Nat.zero_le _⟩) hS (fun q h9 => Or.inl h9) (fun  u1 H1 locs1 h hB hk hS1 => ?_)
  have hPu := kpF wCo_wl hPu hDj hk
  have hPt := hB
  have hS := hS1
  refine lv_aload_n hx hb dX3_readLay_4 rfl (lv_at hl 0 rfl) ?_
  refine lv_aload_n hx hb dX3_readLay_5 rfl (lv_at hl 1 rfl) ?_
  refine gCo_8 Cc hPu (tw_118 hts) dX3_readLay_6 ?_
  refine lv_iconst (v := 1) hx hb dX3_readLay_9 (by decide) ?_
  refine lv_isub hx hb dX3_readLay_10 ?_
  refine kWi (kV Cc (mX3_readNumber l D κ a hIt h) (qX3_readNumber hts (tw_649 hts) ⟨(Nat.le_of_ble_eq_true rfl), (Nat.le_of_ble_eq_true rfl)⟩) (va_recv hE.1 hPt (ci := 3) (q0 := 0) rfl rfl) (rest := []) hPt rfl hl.1 rfl (Nat.le_of_ble_eq_true rfl) dX3_readLay_11 ⟨Nat.zero_le _, Nat.zero_le _⟩) hS (fun q h9 => Or.inl h9) (fun r11 u11 H1 locs1 h hB hk hS1 => ?_)
  have hPu := kpF wCo_wl hPu hDj hk
  have hPt := hB
  have hS := hS1
  refine lv_istore_n (lv' := [(2, .int r11), (0, .ref (a 0)), (1, .ref (a2 0))]) hx hb dX3_readLay_14 rfl hl (by decide) rfl (fun ls hl => ?_)
  refine lv_iload_n hx hb dX3_readLay_15 rfl (lv_at hl 0 rfl) ?_
  refine lv_if_ge (tgt := 23) hx hb dX3_readLay_16 (by decide) (fun c16 => ?_) (fun c16 => ?_)
  · have h := h.1 c16
    refine lv_aload_n hx hb dX3_readLay_23 rfl (lv_at hl 1 rfl) ?_
    refine lv_aload_n hx hb dX3_readLay_24 rfl (lv_at hl 2 rfl) ?_
    refine gCo_8 Cc hPu (tw_118 hts) dX3_readLay_25 ?_
    refine lv_iconst (v := 1) hx hb dX3_readLay_28 (by decide) ?_
    refine lv_isub hx hb dX3_readLay_29 ?_
    refine kWi (kV Cc (mX3_readNumber l D κ a hIt h) (qX3_readNumber hts (tw_649 hts) ⟨(Nat.le_of_ble_eq_true rfl), (Nat.le_of_ble_eq_true rfl)⟩) (va_recv hE.1 hPt (ci := 3) (q0 := 0) rfl rfl) (rest := []) hPt rfl hl.1 rfl (Nat.le_of_ble_eq_true rfl) dX3_readLay_30 ⟨Nat.zero_le _, Nat.zero_le _⟩) hS (fun q h9 => Or.inl h9) (fun r30 u30 H1 locs1 h hB hk hS1 => ?_)
    have hPu := kpF wCo_wl hPu hDj hk
    have hPt := hB
    have hS := hS1
    exact bX3_readLay_33 Cc hIt hIu hDj r11 r30 u30 σ2 _ _ hPt hPu hS _ (lv_sub hl [2, 0] rfl) h
  · have h := h.2 c16
    refine lv_iconst (v := (-1)) hx hb dX3_readLay_19 (by decide) ?_
    refine lv_goto (tgt := 33) hx hb dX3_readLay_20 (by decide) ?_
    exact bX3_readLay_33 Cc hIt hIu hDj r11 (-1) u11 σ2 _ _ hPt hPu hS _ (lv_sub hl [2, 0] rfl) h
theorem qX3_readLay {R : Room} {s : State} {args : Array Value} {own : String} {idx : Nat} (hts : ∀ w ∈ gG, w.before args s = true) (hl : (Cond.methodLink own idx yX3_readLay).before args s = true) (hR : rX3_readLay.frames + 1 ≤ R.frames ∧ 8 + (4 + 11) + rX3_readLay.locals ≤ R.locals) : CallW R s args own RX3 idx yX3_readLay cX3_readLay 4 (some .boolean) (wz yX3_readLay cX3_readLay 4 (some .boolean)) rX3_readLay 0 0 1 := ⟨kw 1 hts mw_670 rfl rfl (tw_73 hts) hl (by decide +kernel) hR, tw_669 hts, tw_21 hts⟩
