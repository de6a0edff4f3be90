abbrev rX5_when : Room := { frames := 5, cells := 0, slots := 0, locals := 113 }
def pX5_when_71 (Q : Int32 → Mx → Prop) (y0 : Int32) (σ : Mx) : Prop := pX5_putBack σ y0 (fun r71 u71 => (pX5_orNone u71 r71 (fun r74 u74 => (Q r74 u74))))
def pX5_when_56 (Q : Int32 → Mx → Prop) (x1 : Int32) (x2 : Int32) (σ : Mx) : Prop := pX5_sumNow σ (fun r59 => ((r59 ≤ x1 → (pX5_when_71 Q x2 σ)) ∧ (¬ r59 ≤ x1 → (pX5_when_71 Q (-1) σ))))
def pX5_when_31s  (ih31 : Int32 → Int32 → Mx → Prop) (Q : Int32 → Mx → Prop) (x1 : Int32) (x2 : Int32) (σ : Mx) : Prop := (200 ≤ x2 → (pX5_when_56 Q x1 x2 σ)) ∧ (¬ 200 ≤ x2 → (pX5_sumNow σ (fun r39 => ((r39 ≤ x1 → (pX5_when_56 Q x1 x2 σ)) ∧ (¬ r39 ≤ x1 → (pX5_year σ (fun u47 => (ih31 x1 (x2 + 1) u47))))))))
noncomputable def pX5_when_31 (Q : Int32 → Mx → Prop) (n : Nat) : Int32 → Int32 → Mx → Prop := Nat.rec (motive := fun _ => Int32 → Int32 → Mx → Prop) (fun _ _ _ => False) (fun _ ih => pX5_when_31s ih Q) n
def pX5_when (σ : Mx) (x1 : Int32) (Q : Int32 → Mx → Prop) : Prop := pX5_within x1 0 999 (fun r5 => ((¬ r5 = 0 → (pX5_copyRow_02 σ (fun u26 => (∃ n, pX5_when_31 Q n x1 0 u26)))) ∧ (r5 = 0 → (pX5_finding σ (-1000001) (fun r14 u14 => (Q r14 u14))))))
set_option maxHeartbeats 4000000 in
set_option maxRecDepth 100000 in
theorem bX5_when_71 {p : Program} {l : Launch} {e : Env} {s : State} {m : MethodId} {args : Array Value} {below : List Frame} {meth : Method} {c : Code} {D : va_G} {κ : Nat → ClassId} {τ : Nat → Nat} {a : Nat → Nat}   {Q : Int32 → Mx → Prop} (Cc : Cx D κ RX5 cX5_when 3 (some .int) p s m args meth c) (hIt : Ij a 13)   : ∀ (y0 : Int32) (σ : Mx) (H : Heap) (locs : List Loc) (hPt : va_P D classes (wMo κ τ a σ) H) (hS : va_S (cA a 13) s.heap H locs) (ls : Array Slot) (hl : lv_has ls 3 []) (h : pX5_when_71 Q y0 σ), W p l e rX5_when s m args below meth c H locs 0 0 (MQ below (QWi Q (fun u H => va_P D classes (wMo κ τ a u) H) (cA a 13)) args s 0 0 (cA a 13)) (F0 m 71 ls [.int y0, .ref (a 0), .ref (a 0)]) := by
  obtain ⟨hx, hb, hml, hown, hts, hr, hlk, hE⟩ := id Cc
  intro y0 σ H locs hPt hS ls hl h
  unfold pX5_when_71 at h
  refine kWi (kV Cc (mX5_putBack l D κ τ a hIt h) (qX5_putBack hts (tw_1017 hts) ⟨(Nat.le_of_ble_eq_true rfl), (Nat.le_of_ble_eq_true rfl)⟩) (va_recv hE.1 hPt (ci := 5) (q0 := 0) rfl rfl) (rest := [.ref (a 0)]) hPt rfl hl.1 rfl (Nat.le_of_ble_eq_true rfl) dX5_when_71 ⟨Nat.zero_le _, Nat.zero_le _⟩) hS (fun q h9 => h9) (fun r71 u71 H1 locs1 h hB hk hS1 => ?_)
  have hPt := hB
  have hS := hS1
  refine kWi (kV Cc (mX5_orNone l D κ τ a hIt h) (qX5_orNone hts (tw_1029 hts) ⟨(Nat.le_of_ble_eq_true rfl), (Nat.le_of_ble_eq_true rfl)⟩) (va_recv hE.1 hPt (ci := 5) (q0 := 0) rfl rfl) (rest := []) hPt rfl hl.1 rfl (Nat.le_of_ble_eq_true rfl) dX5_when_74 ⟨Nat.zero_le _, Nat.zero_le _⟩) hS (fun q h9 => h9) (fun r74 u74 H1 locs1 h hB hk hS1 => ?_)
  have hPt := hB
  have hS := hS1
  exact W.iret (v := r74) hx hb hr (fun t ht _ => QWi.mk (u := u74) h hPt hS ht) hS.2.2 dX5_when_77 (hlocks := hlk)
set_option maxHeartbeats 4000000 in
set_option maxRecDepth 100000 in
theorem bX5_when_56 {p : Program} {l : Launch} {e : Env} {s : State} {m : MethodId} {args : Array Value} {below : List Frame} {meth : Method} {c : Code} {D : va_G} {κ : Nat → ClassId} {τ : Nat → Nat} {a : Nat → Nat}   {Q : Int32 → Mx → Prop} (Cc : Cx D κ RX5 cX5_when 3 (some .int) p s m args meth c) (hIt : Ij a 13)   : ∀ (x1 : Int32) (x2 : Int32) (σ : Mx) (H : Heap) (locs : List Loc) (hPt : va_P D classes (wMo κ τ a σ) H) (hS : va_S (cA a 13) s.heap H locs) (ls : Array Slot) (hl : lv_has ls 3 [(0, .ref (a 0)), (1, .int x1), (2, .int x2)]) (h : pX5_when_56 Q x1 x2 σ), W p l e rX5_when s m args below meth c H locs 0 0 (MQ below (QWi Q (fun u H => va_P D classes (wMo κ τ a u) H) (cA a 13)) args s 0 0 (cA a 13)) (F0 m 56 ls []) := by
  obtain ⟨hx, hb, hml, hown, hts, hr, hlk, hE⟩ := id Cc
  intro x1 x2 σ H locs hPt hS ls hl h
  unfold pX5_when_56 at h
  refine lv_aload_n hx hb dX5_when_56 rfl (lv_at hl 0 rfl) ?_
  refine lv_aload_n hx hb dX5_when_57 rfl (lv_at hl 0 rfl) ?_
  refine lv_aload_n hx hb dX5_when_58 rfl (lv_at hl 0 rfl) ?_
  refine kR (kV Cc (mX5_sumNow l D κ τ a h) (qX5_sumNow hts (tw_937 hts) ⟨(Nat.le_of_ble_eq_true rfl), (Nat.le_of_ble_eq_true rfl)⟩) (va_recv hE.1 hPt (ci := 5) (q0 := 0) rfl rfl) (rest := [.ref (a 0), .ref (a 0)]) hPt rfl hl.1 rfl (Nat.le_of_ble_eq_true rfl) dX5_when_59 ⟨Nat.zero_le _, Nat.zero_le _⟩) (fun r59 h => ?_)
  refine lv_iload_n hx hb dX5_when_62 rfl (lv_at hl 1 rfl) ?_
  refine lv_icmp_le (tgt := 70) hx hb dX5_when_63 (by decide) (fun c63 => ?_) (fun c63 => ?_)
  · have h := h.1 c63
    refine lv_iload_n hx hb dX5_when_70 rfl (lv_at hl 2 rfl) ?_
    exact bX5_when_71 Cc hIt x2 σ _ _ hPt hS _ (lv_sub hl [] rfl) h
  · have h := h.2 c63
    refine lv_iconst (v := (-1)) hx hb dX5_when_66 (by decide) ?_
    refine lv_goto (tgt := 71) hx hb dX5_when_67 (by decide) ?_
    exact bX5_when_71 Cc hIt (-1) σ _ _ hPt hS _ (lv_sub hl [] rfl) h
set_option maxHeartbeats 4000000 in
set_option maxRecDepth 100000 in
theorem bX5_when_31 {p : Program} {l : Launch} {e : Env} {s : State} {m : MethodId} {args : Array Value} {below : List Frame} {meth : Method} {c : Code} {D : va_G} {κ : Nat → ClassId} {τ : Nat → Nat} {a : Nat → Nat}   {Q : Int32 → Mx → Prop} (Cc : Cx D κ RX5 cX5_when 3 (some .int) p s m args meth c) (hIt : Ij a 13)   (n : Nat) : ∀ (x1 : Int32) (x2 : Int32) (σ : Mx) (H : Heap) (locs : List Loc) (hPt : va_P D classes (wMo κ τ a σ) H) (hS : va_S (cA a 13) s.heap H locs) (ls : Array Slot) (hl : lv_has ls 3 [(0, .ref (a 0)), (1, .int x1), (2, .int x2)]) (h : pX5_when_31 Q n x1 x2 σ), W p l e rX5_when s m args below meth c H locs 0 0 (MQ below (QWi Q (fun u H => va_P D classes (wMo κ τ a u) H) (cA a 13)) args s 0 0 (cA a 13)) (F0 m 31 ls []) := by
  obtain ⟨hx, hb, hml, hown, hts, hr, hlk, hE⟩ := id Cc
  induction n with
  | zero =>
    intro x1 x2 σ H locs hPt hS ls hl h
    exact absurd h (fun z => z)
  | succ n hih31 =>
    intro x1 x2 σ H locs hPt hS ls hl h
    have h : pX5_when_31s (pX5_when_31 Q n) Q x1 x2 σ := h
    unfold pX5_when_31s at h
    refine lv_iload_n hx hb dX5_when_31 rfl (lv_at hl 2 rfl) ?_
    refine lv_sipush (v := 200) hx hb dX5_when_32 (by decide) ?_
    refine lv_icmp_ge (tgt := 56) hx hb dX5_when_35 (by decide) (fun c35 => ?_) (fun c35 => ?_)
    · have h := h.1 c35
      exact bX5_when_56 Cc hIt x1 x2 σ _ _ hPt hS _ (lv_sub hl [0, 1, 2] rfl) h
    · have h := h.2 c35
      refine lv_aload_n hx hb dX5_when_38 rfl (lv_at hl 0 rfl) ?_
      refine kR (kV Cc (mX5_sumNow l D κ τ a h) (qX5_sumNow hts (tw_937 hts) ⟨(Nat.le_of_ble_eq_true rfl), (Nat.le_of_ble_eq_true rfl)⟩) (va_recv hE.1 hPt (ci := 5) (q0 := 0) rfl rfl) (rest := []) hPt rfl hl.1 rfl (Nat.le_of_ble_eq_true rfl) dX5_when_39 ⟨Nat.zero_le _, Nat.zero_le _⟩) (fun r39 h => ?_)
      refine lv_iload_n hx hb dX5_when_42 rfl (lv_at hl 1 rfl) ?_
      refine lv_icmp_le (tgt := 56) hx hb dX5_when_43 (by decide) (fun c43 => ?_) (fun c43 => ?_)
      · have h := h.1 c43
        exact bX5_when_56 Cc hIt x1 x2 σ _ _ hPt hS _ (lv_sub hl [0, 1, 2] rfl) h
      · have h := h.2 c43
        refine lv_aload_n hx hb dX5_when_46 rfl (lv_at hl 0 rfl) ?_
        refine kWv (kV Cc (mX5_year l D κ τ a hIt h) (qX5_year hts (tw_951 hts) ⟨(Nat.le_of_ble_eq_true rfl), (Nat.le_of_ble_eq_true rfl)⟩) (va_recv hE.1 hPt (ci := 5) (q0 := 0) rfl rfl) (rest := []) hPt rfl hl.1 rfl (Nat.le_of_ble_eq_true rfl) dX5_when_47 ⟨Nat.zero_le _, Nat.zero_le _⟩) hS (fun q h9 => h9) (fun  u47 H1 locs1 h hB hk hS1 => ?_)
        have hPt := hB
        have hS := hS1
        refine lv_iinc (v := (x2 + 1)) (lv' := [(2, .int (x2 + 1)), (0, .ref (a 0)), (1, .int x1)]) hx hb dX5_when_50 hl (k := 2) rfl rfl (by decide) rfl (fun ls hl => ?_)
        refine lv_goto (tgt := 31) hx hb dX5_when_53 (by decide) ?_
        exact hih31 x1 (x2 + 1) u47 _ _ hPt hS _ (lv_sub hl [1, 2, 0] rfl) h
set_option maxHeartbeats 4000000 in
set_option maxRecDepth 100000 in
theorem mX5_when (l : Launch) (D : va_G) (κ : Nat → ClassId) (τ : Nat → Nat) (a : Nat → Nat) {σ : Mx} {x1 : Int32} {Q : Int32 → Mx → Prop} (hIt : Ij a 13) (h : pX5_when σ x1 Q) : Met l yX5_when (wz yX5_when cX5_when 3 (some .int)) rX5_when (va_Pc [.ref (a 0), .int x1] (PE D κ (fun H => va_P D classes (wMo κ τ a σ) H))) (QWi Q (fun u H => va_P D classes (wMo κ τ a u) H) (cA a 13)) 0 0 (cA a 13) := by
  refine Met_of l (own := RX5) (by decide) rfl (Nat.le_of_ble_eq_true rfl) (fun p e s m below meth c Cc hPP ls hl => ?_)
  obtain ⟨hx, hb, hml, hown, hts, hr, hlk, hE⟩ := id Cc
  have hl : lv_has ls 3 [(0, .ref (a 0)), (1, .int x1)] := hl
  have hPt := hPP
  have hS : va_S (cA a 13) s.heap s.heap [] := va_S.rf
  unfold pX5_when at h
  refine lv_iload_n hx hb dX5_when_0 rfl (lv_at hl 1 rfl) ?_
  refine lv_iconst (v := 0) hx hb dX5_when_1 (by decide) ?_
  refine lv_sipush (v := 999) hx hb dX5_when_2 (by decide) ?_
  refine kR (kS Cc (mX5_within l D κ h) (qX5_within hts (tw_832 hts) ⟨(Nat.le_of_ble_eq_true rfl), (Nat.le_of_ble_eq_true rfl)⟩) (rest := []) trivial rfl hl.1 rfl (Nat.le_of_ble_eq_true rfl) dX5_when_5 ⟨Nat.zero_le _, Nat.zero_le _⟩) (fun r5 h => ?_)
  refine lv_if_ne (tgt := 18) hx hb dX5_when_8 (by decide) (fun c8 => ?_) (fun c8 => ?_)
  · have h := h.1 c8
    refine lv_aload_n hx hb dX5_when_18 rfl (lv_at hl 0 rfl) ?_
    refine gMo_0 Cc hPt (tw_761 hts) dX5_when_19 ?_
    refine lv_aload_n hx hb dX5_when_22 rfl (lv_at hl 0 rfl) ?_
    refine gMo_2 Cc hPt (tw_763 hts) dX5_when_23 ?_
    refine kWv (kS Cc (mX5_copyRow_02 l D κ τ a hIt h) (qX5_copyRow_02 hts (tw_1014 hts) ⟨(Nat.le_of_ble_eq_true rfl), (Nat.le_of_ble_eq_true rfl)⟩) (rest := []) hPt rfl hl.1 rfl (Nat.le_of_ble_eq_true rfl) dX5_when_26 ⟨Nat.zero_le _, Nat.zero_le _⟩) hS (fun q h9 => h9) (fun  u26 H1 locs1 h hB hk hS1 => ?_)
    have hPt := hB
    have hS := hS1
    refine lv_iconst (v := 0) hx hb dX5_when_29 (by decide) ?_
    refine lv_istore_n (lv' := [(2, .int 0), (0, .ref (a 0)), (1, .int x1)]) hx hb dX5_when_30 rfl hl (by decide) rfl (fun ls hl => ?_)
    obtain ⟨n, h⟩ := h
    exact bX5_when_31 Cc hIt n x1 0 u26 _ _ hPt hS _ (lv_sub hl [1, 2, 0] rfl) h
  · have h := h.2 c8
    refine lv_aload_n hx hb dX5_when_11 rfl (lv_at hl 0 rfl) ?_
    refine lv_ldc (own := RX5) (v := (-1000001)) hx hb hown (tw_842 hts) dX5_when_12 ?_
    refine kWi (kV Cc (mX5_finding l D κ τ a hIt h) (qX5_finding hts (tw_843 hts) ⟨(Nat.le_of_ble_eq_true rfl), (Nat.le_of_ble_eq_true rfl)⟩) (va_recv hE.1 hPt (ci := 5) (q0 := 0) rfl rfl) (rest := []) hPt rfl hl.1 rfl (Nat.le_of_ble_eq_true rfl) dX5_when_14 ⟨Nat.zero_le _, Nat.zero_le _⟩) hS (fun q h9 => h9) (fun r14 u14 H1 locs1 h hB hk hS1 => ?_)
    have hPt := hB
    have hS := hS1
    exact W.iret (v := r14) hx hb hr (fun t ht _ => QWi.mk (u := u14) h hPt hS ht) hS.2.2 dX5_when_17 (hlocks := hlk)
theorem qX5_when {R : Room} {s : State} {args : Array Value} {own : String} {idx : Nat} (hts : ∀ w ∈ gG, w.before args s = true) (hl : (Cond.methodLink own idx yX5_when).before args s = true) (hR : rX5_when.frames + 1 ≤ R.frames ∧ 8 + (3 + 11) + rX5_when.locals ≤ R.locals) : CallW R s args own RX5 idx yX5_when cX5_when 3 (some .int) (wz yX5_when cX5_when 3 (some .int)) rX5_when 0 0 1 := ⟨kw 1 hts mw_1028 rfl rfl (tw_75 hts) hl (by decide +kernel) hR, tw_1026 hts, tw_1027 hts⟩
abbrev rX5_comes : Room := { frames := 4, cells := 0, slots := 0, locals := 87 }
def pX5_comes_15 (Q : Int32 → Mx → Prop) (σ : Mx) : Prop := pX5_finding σ (-1000001) (fun r18 u18 => (Q r18 u18))
def pX5_comes_77 (Q : Int32 → Mx → Prop) (y0 : Int32) (σ : Mx) : Prop := pX5_putBack σ y0 (fun r77 u77 => (pX5_orNone u77 r77 (fun r80 u80 => (Q r80 u80))))
def pX5_comes_61 (Q : Int32 → Mx → Prop) (x1 : Int32) (x2 : Int32) (x3 : Int32) (σ : Mx) : Prop := pX5_whereLies σ x1 (fun r65 => ((¬ r65 = x2 → (pX5_comes_77 Q (-1) σ)) ∧ (r65 = x2 → (pX5_comes_77 Q x3 σ))))
def pX5_comes_35s  (ih35 : Int32 → Int32 → Int32 → Mx → Prop) (Q : Int32 → Mx → Prop) (x1 : Int32) (x2 : Int32) (x3 : Int32) (σ : Mx) : Prop := (200 ≤ x3 → (pX5_comes_61 Q x1 x2 x3 σ)) ∧ (¬ 200 ≤ x3 → (pX5_whereLies σ x1 (fun r44 => ((r44 = x2 → (pX5_comes_61 Q x1 x2 x3 σ)) ∧ (¬ r44 = x2 → (pX5_year σ (fun u52 => (ih35 x1 x2 (x3 + 1) u52))))))))
noncomputable def pX5_comes_35 (Q : Int32 → Mx → Prop) (n : Nat) : Int32 → Int32 → Int32 → Mx → Prop := Nat.rec (motive := fun _ => Int32 → Int32 → Int32 → Mx → Prop) (fun _ _ _ _ => False) (fun _ ih => pX5_comes_35s ih Q) n
def pX5_comes (σ : Mx) (x1 : Int32) (x2 : Int32) (Q : Int32 → Mx → Prop) : Prop := pX5_isPiece σ x1 (fun r2 => ((r2 = 0 → (pX5_comes_15 Q σ)) ∧ (¬ r2 = 0 → (pX5_isOne x2 (fun r9 => ((¬ r9 = 0 → (pX5_copyRow_02 σ (fun u30 => (∃ n, pX5_comes_35 Q n x1 x2 0 u30)))) ∧ (r9 = 0 → (pX5_comes_15 Q σ))))))))
set_option maxHeartbeats 4000000 in
set_option maxRecDepth 100000 in
theorem bX5_comes_15 {p : Program} {l : Launch} {e : Env} {s : State} {m : MethodId} {args : Array Value} {below : List Frame} {meth : Method} {c : Code} {D : va_G} {κ : Nat → ClassId} {τ : Nat → Nat} {a : Nat → Nat}   {Q : Int32 → Mx → Prop} (Cc : Cx D κ RX5 cX5_comes 4 (some .int) p s m args meth c) (hIt : Ij a 13)   : ∀ (σ : Mx) (H : Heap) (locs : List Loc) (hPt : va_P D classes (wMo κ τ a σ) H) (hS : va_S (cA a 13) s.heap H locs) (ls : Array Slot) (hl : lv_has ls 4 [(0, .ref (a 0))]) (h : pX5_comes_15 Q σ), W p l e rX5_comes s m args below meth c H locs 0 0 (MQ below (QWi Q (fun u H => va_P D classes (wMo κ τ a u) H) (cA a 13)) args s 0 0 (cA a 13)) (F0 m 15 ls []) := by
  obtain ⟨hx, hb, hml, hown, hts, hr, hlk, hE⟩ := id Cc
  intro σ H locs hPt hS ls hl h
  unfold pX5_comes_15 at h
  refine lv_aload_n hx hb dX5_comes_15 rfl (lv_at hl 0 rfl) ?_
  refine lv_ldc (own := RX5) (v := (-1000001)) hx hb hown (tw_842 hts) dX5_comes_16 ?_
  refine kWi (kV Cc (mX5_finding l D κ τ a hIt h) (qX5_finding hts (tw_843 hts) ⟨(Nat.le_of_ble_eq_true rfl), (Nat.le_of_ble_eq_true rfl)⟩) (va_recv hE.1 hPt (ci := 5) (q0 := 0) rfl rfl) (rest := []) hPt rfl hl.1 rfl (Nat.le_of_ble_eq_true rfl) dX5_comes_18 ⟨Nat.zero_le _, Nat.zero_le _⟩) hS (fun q h9 => h9) (fun r18 u18 H1 locs1 h hB hk hS1 => ?_)
  have hPt := hB
  have hS := hS1
  exact W.iret (v := r18) hx hb hr (fun t ht _ => QWi.mk (u := u18) h hPt hS ht) hS.2.2 dX5_comes_21 (hlocks := hlk)
set_option maxHeartbeats 4000000 in
set_option maxRecDepth 100000 in
theorem bX5_comes_77 {p : Program} {l : Launch} {e : Env} {s : State} {m : MethodId} {args : Array Value} {below : List Frame} {meth : Method} {c : Code} {D : va_G} {κ : Nat → ClassId} {τ : Nat → Nat} {a : Nat → Nat}   {Q : Int32 → Mx → Prop} (Cc : Cx D κ RX5 cX5_comes 4 (some .int) p s m args meth c) (hIt : Ij a 13)   : ∀ (y0 : Int32) (σ : Mx) (H : Heap) (locs : List Loc) (hPt : va_P D classes (wMo κ τ a σ) H) (hS : va_S (cA a 13) s.heap H locs) (ls : Array Slot) (hl : lv_has ls 4 []) (h : pX5_comes_77 Q y0 σ), W p l e rX5_comes s m args below meth c H locs 0 0 (MQ below (QWi Q (fun u H => va_P D classes (wMo κ τ a u) H) (cA a 13)) args s 0 0 (cA a 13)) (F0 m 77 ls [.int y0, .ref (a 0), .ref (a 0)]) := by
  obtain ⟨hx, hb, hml, hown, hts, hr, hlk, hE⟩ := id Cc
  intro y0 σ H locs hPt hS ls hl h
  unfold pX5_comes_77 at h
  refine kWi (kV Cc (mX5_putBack l D κ τ a hIt h) (qX5_putBack hts (tw_1017 hts) ⟨(Nat.le_of_ble_eq_true rfl), (Nat.le_of_ble_eq_true rfl)⟩) (va_recv hE.1 hPt (ci := 5) (q0 := 0) rfl rfl) (rest := [.ref (a 0)]) hPt rfl hl.1 rfl (Nat.le_of_ble_eq_true rfl) dX5_comes_77 ⟨Nat.zero_le _, Nat.zero_le _⟩) hS (fun q h9 => h9) (fun r77 u77 H1 locs1 h hB hk hS1 => ?_)
  have hPt := hB
  have hS := hS1
  refine kWi (kV Cc (mX5_orNone l D κ τ a hIt h) (qX5_orNone hts (tw_1029 hts) ⟨(Nat.le_of_ble_eq_true rfl), (Nat.le_of_ble_eq_true rfl)⟩) (va_recv hE.1 hPt (ci := 5) (q0 := 0) rfl rfl) (rest := []) hPt rfl hl.1 rfl (Nat.le_of_ble_eq_true rfl) dX5_comes_80 ⟨Nat.zero_le _, Nat.zero_le _⟩) hS (fun q h9 => h9) (fun r80 u80 H1 locs1 h hB hk hS1 => ?_)
  have hPt := hB
  have hS := hS1
  exact W.iret (v := r80) hx hb hr (fun t ht _ => QWi.mk (u := u80) h hPt hS ht) hS.2.2 dX5_comes_83 (hlocks := hlk)
set_option maxHeartbeats 4000000 in
set_option maxRecDepth 100000 in
theorem bX5_comes_61 {p : Program} {l : Launch} {e : Env} {s : State} {m : MethodId} {args : Array Value} {below : List Frame} {meth : Method} {c : Code} {D : va_G} {κ : Nat → ClassId} {τ : Nat → Nat} {a : Nat → Nat}   {Q : Int32 → Mx → Prop} (Cc : Cx D κ RX5 cX5_comes 4 (some .int) p s m args meth c) (hIt : Ij a 13)   : ∀ (x1 : Int32) (x2 : Int32) (x3 : Int32) (σ : Mx) (H : Heap) (locs : List Loc) (hPt : va_P D classes (wMo κ τ a σ) H) (hS : va_S (cA a 13) s.heap H locs) (ls : Array Slot) (hl : lv_has ls 4 [(0, .ref (a 0)), (1, .int x1), (2, .int x2), (3, .int x3)]) (h : pX5_comes_61 Q x1 x2 x3 σ), W p l e rX5_comes s m args below meth c H locs 0 0 (MQ below (QWi Q (fun u H => va_P D classes (wMo κ τ a u) H) (cA a 13)) args s 0 0 (cA a 13)) (F0 m 61 ls []) := by
  obtain ⟨hx, hb, hml, hown, hts, hr, hlk, hE⟩ := id Cc
  intro x1 x2 x3 σ H locs hPt hS ls hl h
  unfold pX5_comes_61 at h
  refine lv_aload_n hx hb dX5_comes_61 rfl (lv_at hl 0 rfl) ?_
  refine lv_aload_n hx hb dX5_comes_62 rfl (lv_at hl 0 rfl) ?_
  refine lv_aload_n hx hb dX5_comes_63 rfl (lv_at hl 0 rfl) ?_
  refine lv_iload_n hx hb dX5_comes_64 rfl (lv_at hl 1 rfl) ?_
  refine kR (kV Cc (mX5_whereLies l D κ τ a h) (qX5_whereLies hts (tw_881 hts) ⟨(Nat.le_of_ble_eq_true rfl), (Nat.le_of_ble_eq_true rfl)⟩) (va_recv hE.1 hPt (ci := 5) (q0 := 0) rfl rfl) (rest := [.ref (a 0), .ref (a 0)]) hPt rfl hl.1 rfl (Nat.le_of_ble_eq_true rfl) dX5_comes_65 ⟨Nat.zero_le _, Nat.zero_le _⟩) (fun r65 h => ?_)
  refine lv_iload_n hx hb dX5_comes_68 rfl (lv_at hl 2 rfl) ?_
  refine lv_icmp_ne (tgt := 76) hx hb dX5_comes_69 (by decide) (fun c69 => ?_) (fun c69 => ?_)
  · have h := h.1 c69
    refine lv_iconst (v := (-1)) hx hb dX5_comes_76 (by decide) ?_
    exact bX5_comes_77 Cc hIt (-1) σ _ _ hPt hS _ (lv_sub hl [] rfl) h
  · have h := h.2 c69
    refine lv_iload_n hx hb dX5_comes_72 rfl (lv_at hl 3 rfl) ?_
    refine lv_goto (tgt := 77) hx hb dX5_comes_73 (by decide) ?_
    exact bX5_comes_77 Cc hIt x3 σ _ _ hPt hS _ (lv_sub hl [] rfl) h
set_option maxHeartbeats 4000000 in
set_option maxRecDepth 100000 in
theorem bX5_comes_35 {p : Program} {l : Launch} {e : Env} {s : State} {m : MethodId} {args : Array Value} {below : List Frame} {meth : Method} {c : Code} {D : va_G} {κ : Nat → ClassId} {τ : Nat → Nat} {a : Nat → Nat}   {Q : Int32 → Mx → Prop} (Cc : Cx D κ RX5 cX5_comes 4 (some .int) p s m args meth c) (hIt : Ij a 13)   (n : Nat) : ∀ (x1 : Int32) (x2 : Int32) (x3 : Int32) (σ : Mx) (H : Heap) (locs : List Loc) (hPt : va_P D classes (wMo κ τ a σ) H) (hS : va_S (cA a 13) s.heap H locs) (ls : Array Slot) (hl : lv_has ls 4 [(0, .ref (a 0)), (1, .int x1), (2, .int x2), (3, .int x3)]) (h : pX5_comes_35 Q n x1 x2 x3 σ), W p l e rX5_comes s m args below meth c H locs 0 0 (MQ below (QWi Q (fun u H => va_P D classes (wMo κ τ a u) H) (cA a 13)) args s 0 0 (cA a 13)) (F0 m 35 ls []) := by
  obtain ⟨hx, hb, hml, hown, hts, hr, hlk, hE⟩ := id Cc
  induction n with
  | zero =>
    intro x1 x2 x3 σ H locs hPt hS ls hl h
    exact absurd h (fun z => z)
  | succ n hih35 =>
    intro x1 x2 x3 σ H locs hPt hS ls hl h
    have h : pX5_comes_35s (pX5_comes_35 Q n) Q x1 x2 x3 σ := h
    unfold pX5_comes_35s at h
    refine lv_iload_n hx hb dX5_comes_35 rfl (lv_at hl 3 rfl) ?_
    refine lv_sipush (v := 200) hx hb dX5_comes_36 (by decide) ?_
    refine lv_icmp_ge (tgt := 61) hx hb dX5_comes_39 (by decide) (fun c39 => ?_) (fun c39 => ?_)
    · have h := h.1 c39
      exact bX5_comes_61 Cc hIt x1 x2 x3 σ _ _ hPt hS _ (lv_sub hl [0, 1, 2, 3] rfl) h
    · have h := h.2 c39
      refine lv_aload_n hx hb dX5_comes_42 rfl (lv_at hl 0 rfl) ?_
      refine lv_iload_n hx hb dX5_comes_43 rfl (lv_at hl 1 rfl) ?_
      refine kR (kV Cc (mX5_whereLies l D κ τ a h) (qX5_whereLies hts (tw_881 hts) ⟨(Nat.le_of_ble_eq_true rfl), (Nat.le_of_ble_eq_true rfl)⟩) (va_recv hE.1 hPt (ci := 5) (q0 := 0) rfl rfl) (rest := []) hPt rfl hl.1 rfl (Nat.le_of_ble_eq_true rfl) dX5_comes_44 ⟨Nat.zero_le _, Nat.zero_le _⟩) (fun r44 h => ?_)
      refine lv_iload_n hx hb dX5_comes_47 rfl (lv_at hl 2 rfl) ?_
      refine lv_icmp_eq (tgt := 61) hx hb dX5_comes_48 (by decide) (fun c48 => ?_) (fun c48 => ?_)
      · have h := h.1 c48
        exact bX5_comes_61 Cc hIt x1 x2 x3 σ _ _ hPt hS _ (lv_sub hl [0, 1, 2, 3] rfl) h
      · have h := h.2 c48
        refine lv_aload_n hx hb dX5_comes_51 rfl (lv_at hl 0 rfl) ?_
        refine kWv (kV Cc (mX5_year l D κ τ a hIt h) (qX5_year hts (tw_951 hts) ⟨(Nat.le_of_ble_eq_true rfl), (Nat.le_of_ble_eq_true rfl)⟩) (va_recv hE.1 hPt (ci := 5) (q0 := 0) rfl rfl) (rest := []) hPt rfl hl.1 rfl (Nat.le_of_ble_eq_true rfl) dX5_comes_52 ⟨Nat.zero_le _, Nat.zero_le _⟩) hS (fun q h9 => h9) (fun  u52 H1 locs1 h hB hk hS1 => ?_)
        have hPt := hB
        have hS := hS1
        refine lv_iinc (v := (x3 + 1)) (lv' := [(3, .int (x3 + 1)), (0, .ref (a 0)), (1, .int x1), (2, .int x2)]) hx hb dX5_comes_55 hl (k := 3) rfl rfl (by decide) rfl (fun ls hl => ?_)
        refine lv_goto (tgt := 35) hx hb dX5_comes_58 (by decide) ?_
        exact hih35 x1 x2 (x3 + 1) u52 _ _ hPt hS _ (lv_sub hl [1, 2, 3, 0] rfl) h
set_option maxHeartbeats 4000000 in
set_option maxRecDepth 100000 in
theorem mX5_comes (l : Launch) (D : va_G) (κ : Nat → ClassId) (τ : Nat → Nat) (a : Nat → Nat) {σ : Mx} {x1 : Int32} {x2 : Int32} {Q : Int32 → Mx → Prop} (hIt : Ij a 13) (h : pX5_comes σ x1 x2 Q) : Met l yX5_comes (wz yX5_comes cX5_comes 4 (some .int)) rX5_comes (va_Pc [.ref (a 0), .int x1, .int x2] (PE D κ (fun H => va_P D classes (wMo κ τ a σ) H))) (QWi Q (fun u H => va_P D classes (wMo κ τ a u) H) (cA a 13)) 0 0 (cA a 13) := by
  refine Met_of l (own := RX5) (by decide) rfl (Nat.le_of_ble_eq_true rfl) (fun p e s m below meth c Cc hPP ls hl => ?_)
  obtain ⟨hx, hb, hml, hown, hts, hr, hlk, hE⟩ := id Cc
  have hl : lv_has ls 4 [(0, .ref (a 0)), (1, .int x1), (2, .int x2)] := hl
  have hPt := hPP
  have hS : va_S (cA a 13) s.heap s.heap [] := va_S.rf
  unfold pX5_comes at h
  refine lv_aload_n hx hb dX5_comes_0 rfl (lv_at hl 0 rfl) ?_
  refine lv_iload_n hx hb dX5_comes_1 rfl (lv_at hl 1 rfl) ?_
  refine kR (kV Cc (mX5_isPiece l D κ τ a h) (qX5_isPiece hts (tw_873 hts) ⟨(Nat.le_of_ble_eq_true rfl), (Nat.le_of_ble_eq_true rfl)⟩) (va_recv hE.1 hPt (ci := 5) (q0 := 0) rfl rfl) (rest := []) hPt rfl hl.1 rfl (Nat.le_of_ble_eq_true rfl) dX5_comes_2 ⟨Nat.zero_le _, Nat.zero_le _⟩) (fun r2 h => ?_)
  refine lv_if_eq (tgt := 15) hx hb dX5_comes_5 (by decide) (fun c5 => ?_) (fun c5 => ?_)
  · have h := h.1 c5
    exact bX5_comes_15 Cc hIt σ _ _ hPt hS _ (lv_sub hl [0] rfl) h
  · have h := h.2 c5
    refine lv_iload_n hx hb dX5_comes_8 rfl (lv_at hl 2 rfl) ?_
    refine kR (kS Cc (mX5_isOne l D κ h) (qX5_isOne hts (tw_835 hts) ⟨(Nat.le_of_ble_eq_true rfl), (Nat.le_of_ble_eq_true rfl)⟩) (rest := []) trivial rfl hl.1 rfl (Nat.le_of_ble_eq_true rfl) dX5_comes_9 ⟨Nat.zero_le _, Nat.zero_le _⟩) (fun r9 h => ?_)
    refine lv_if_ne (tgt := 22) hx hb dX5_comes_12 (by decide) (fun c12 => ?_) (fun c12 => ?_)
    · have h := h.1 c12
      refine lv_aload_n hx hb dX5_comes_22 rfl (lv_at hl 0 rfl) ?_
      refine gMo_0 Cc hPt (tw_761 hts) dX5_comes_23 ?_
      refine lv_aload_n hx hb dX5_comes_26 rfl (lv_at hl 0 rfl) ?_
      refine gMo_2 Cc hPt (tw_763 hts) dX5_comes_27 ?_
      refine kWv (kS Cc (mX5_copyRow_02 l D κ τ a hIt h) (qX5_copyRow_02 hts (tw_1014 hts) ⟨(Nat.le_of_ble_eq_true rfl), (Nat.le_of_ble_eq_true rfl)⟩) (rest := []) hPt rfl hl.1 rfl (Nat.le_of_ble_eq_true rfl) dX5_comes_30 ⟨Nat.zero_le _, Nat.zero_le _⟩) hS (fun q h9 => h9) (fun  u30 H1 locs1 h hB hk hS1 => ?_)
      have hPt := hB
      have hS := hS1
      refine lv_iconst (v := 0) hx hb dX5_comes_33 (by decide) ?_
      refine lv_istore_n (lv' := [(3, .int 0), (0, .ref (a 0)), (1, .int x1), (2, .int x2)]) hx hb dX5_comes_34 rfl hl (by decide) rfl (fun ls hl => ?_)
      obtain ⟨n, h⟩ := h
      exact bX5_comes_35 Cc hIt n x1 x2 0 u30 _ _ hPt hS _ (lv_sub hl [1, 2, 3, 0] rfl) h
    · have h := h.2 c12
      exact bX5_comes_15 Cc hIt σ _ _ hPt hS _ (lv_sub hl [0] rfl) h
theorem qX5_comes {R : Room} {s : State} {args : Array Value} {own : String} {idx : Nat} (hts : ∀ w ∈ gG, w.before args s = true) (hl : (Cond.methodLink own idx yX5_comes).before args s = true) (hR : rX5_comes.frames + 1 ≤ R.frames ∧ 8 + (4 + 11) + rX5_comes.locals ≤ R.locals) : CallW R s args own RX5 idx yX5_comes cX5_comes 4 (some .int) (wz yX5_comes cX5_comes 4 (some .int)) rX5_comes 0 0 2 := ⟨kw 2 hts mw_1037 rfl rfl (tw_75 hts) hl (by decide +kernel) hR, tw_1035 hts, tw_1036 hts⟩
abbrev rX5_granted : Room := { frames := 4, cells := 0, slots := 0, locals := 87 }
def pX5_granted_68 (Q : Int32 → Mx → Prop) (y0 : Int32) (σ : Mx) : Prop := pX5_putBack σ y0 (fun r68 u68 => (pX5_orNone u68 r68 (fun r71 u71 => (Q r71 u71))))
def pX5_granted_53 (Q : Int32 → Mx → Prop) (x1 : Int32) (x2 : Int32) (σ : Mx) : Prop := pX5_isGranted σ x1 (fun r57 => ((r57 = 0 → (pX5_granted_68 Q (-1) σ)) ∧ (¬ r57 = 0 → (pX5_granted_68 Q x2 σ))))
def pX5_granted_28s  (ih28 : Int32 → Int32 → Mx → Prop) (Q : Int32 → Mx → Prop) (x1 : Int32) (x2 : Int32) (σ : Mx) : Prop := (200 ≤ x2 → (pX5_granted_53 Q x1 x2 σ)) ∧ (¬ 200 ≤ x2 → (pX5_isGranted σ x1 (fun r37 => ((¬ r37 = 0 → (pX5_granted_53 Q x1 x2 σ)) ∧ (r37 = 0 → (pX5_year σ (fun u44 => (ih28 x1 (x2 + 1) u44))))))))
noncomputable def pX5_granted_28 (Q : Int32 → Mx → Prop) (n : Nat) : Int32 → Int32 → Mx → Prop := Nat.rec (motive := fun _ => Int32 → Int32 → Mx → Prop) (fun _ _ _ => False) (fun _ ih => pX5_granted_28s ih Q) n
def pX5_granted (σ : Mx) (x1 : Int32) (Q : Int32 → Mx → Prop) : Prop := pX5_isPiece σ x1 (fun r2 => ((¬ r2 = 0 → (pX5_copyRow_02 σ (fun u23 => (∃ n, pX5_granted_28 Q n x1 0 u23)))) ∧ (r2 = 0 → (pX5_finding σ (-1000001) (fun r11 u11 => (Q r11 u11))))))
set_option maxHeartbeats 4000000 in
set_option maxRecDepth 100000 in
theorem bX5_granted_68 {p : Program} {l : Launch} {e : Env} {s : State} {m : MethodId} {args : Array Value} {below : List Frame} {meth : Method} {c : Code} {D : va_G} {κ : Nat → ClassId} {τ : Nat → Nat} {a : Nat → Nat}   {Q : Int32 → Mx → Prop} (Cc : Cx D κ RX5 cX5_granted 3 (some .int) p s m args meth c) (hIt : Ij a 13)   : ∀ (y0 : Int32) (σ : Mx) (H : Heap) (locs : List Loc) (hPt : va_P D classes (wMo κ τ a σ) H) (hS : va_S (cA a 13) s.heap H locs) (ls : Array Slot) (hl : lv_has ls 3 []) (h : pX5_granted_68 Q y0 σ), W p l e rX5_granted s m args below meth c H locs 0 0 (MQ below (QWi Q (fun u H => va_P D classes (wMo κ τ a u) H) (cA a 13)) args s 0 0 (cA a 13)) (F0 m 68 ls [.int y0, .ref (a 0), .ref (a 0)]) := by
  obtain ⟨hx, hb, hml, hown, hts, hr, hlk, hE⟩ := id Cc
  intro y0 σ H locs hPt hS ls hl h
  unfold pX5_granted_68 at h
  refine kWi (kV Cc (mX5_putBack l D κ τ a hIt h) (qX5_putBack hts (tw_1017 hts) ⟨(Nat.le_of_ble_eq_true rfl), (Nat.le_of_ble_eq_true rfl)⟩) (va_recv hE.1 hPt (ci := 5) (q0 := 0) rfl rfl) (rest := [.ref (a 0)]) hPt rfl hl.1 rfl (Nat.le_of_ble_eq_true rfl) dX5_granted_68 ⟨Nat.zero_le _, Nat.zero_le _⟩) hS (fun q h9 => h9) (fun r68 u68 H1 locs1 h hB hk hS1 => ?_)
  have hPt := hB
  have hS := hS1
  refine kWi (kV Cc (mX5_orNone l D κ τ a hIt h) (qX5_orNone hts (tw_1029 hts) ⟨(Nat.le_of_ble_eq_true rfl), (Nat.le_of_ble_eq_true rfl)⟩) (va_recv hE.1 hPt (ci := 5) (q0 := 0) rfl rfl) (rest := []) hPt rfl hl.1 rfl (Nat.le_of_ble_eq_true rfl) dX5_granted_71 ⟨Nat.zero_le _, Nat.zero_le _⟩) hS (fun q h9 => h9) (fun r71 u71 H1 locs1 h hB hk hS1 => ?_)
  have hPt := hB
  have hS := hS1
  exact W.iret (v := r71) hx hb hr (fun t ht _ => QWi.mk (u := u71) h hPt hS ht) hS.2.2 dX5_granted_74 (hlocks := hlk)
set_option maxHeartbeats 4000000 in
set_option maxRecDepth 100000 in
theorem bX5_granted_53 {p : Program} {l : Launch} {e : Env} {s : State} {m : MethodId} {args : Array Value} {below : List Frame} {meth : Method} {c : Code} {D : va_G} {κ : Nat → ClassId} {τ : Nat → Nat} {a : Nat → Nat}   {Q : Int32 → Mx → Prop} (Cc : Cx D κ RX5 cX5_granted 3 (some .int) p s m args meth c) (hIt : Ij a 13)   : ∀ (x1 : Int32) (x2 : Int32) (σ : Mx) (H : Heap) (locs : List Loc) (hPt : va_P D classes (wMo κ τ a σ) H) (hS : va_S (cA a 13) s.heap H locs) (ls : Array Slot) (hl : lv_has ls 3 [(0, .ref (a 0)), (1, .int x1), (2, .int x2)]) (h : pX5_granted_53 Q x1 x2 σ), W p l e rX5_granted s m args below meth c H locs 0 0 (MQ below (QWi Q (fun u H => va_P D classes (wMo κ τ a u) H) (cA a 13)) args s 0 0 (cA a 13)) (F0 m 53 ls []) := by
  obtain ⟨hx, hb, hml, hown, hts, hr, hlk, hE⟩ := id Cc
  intro x1 x2 σ H locs hPt hS ls hl h
  unfold pX5_granted_53 at h
  refine lv_aload_n hx hb dX5_granted_53 rfl (lv_at hl 0 rfl) ?_
  refine lv_aload_n hx hb dX5_granted_54 rfl (lv_at hl 0 rfl) ?_
  refine lv_aload_n hx hb dX5_granted_55 rfl (lv_at hl 0 rfl) ?_
  refine lv_iload_n hx hb dX5_granted_56 rfl (lv_at hl 1 rfl) ?_
  refine kR (kV Cc (mX5_isGranted l D κ τ a h) (qX5_isGranted hts (tw_972 hts) ⟨(Nat.le_of_ble_eq_true rfl), (Nat.le_of_ble_eq_true rfl)⟩) (va_recv hE.1 hPt (ci := 5) (q0 := 0) rfl rfl) (rest := [.ref (a 0), .ref (a 0)]) hPt rfl hl.1 rfl (Nat.le_of_ble_eq_true rfl) dX5_granted_57 ⟨Nat.zero_le _, Nat.zero_le _⟩) (fun r57 h => ?_)
  refine lv_if_eq (tgt := 67) hx hb dX5_granted_60 (by decide) (fun c60 => ?_) (fun c60 => ?_)
  · have h := h.1 c60
    refine lv_iconst (v := (-1)) hx hb dX5_granted_67 (by decide) ?_
    exact bX5_granted_68 Cc hIt (-1) σ _ _ hPt hS _ (lv_sub hl [] rfl) h
  · have h := h.2 c60
    refine lv_iload_n hx hb dX5_granted_63 rfl (lv_at hl 2 rfl) ?_
    refine lv_goto (tgt := 68) hx hb dX5_granted_64 (by decide) ?_
    exact bX5_granted_68 Cc hIt x2 σ _ _ hPt hS _ (lv_sub hl [] rfl) h
set_option maxHeartbeats 4000000 in
set_option maxRecDepth 100000 in
theorem bX5_granted_28 {p : Program} {l : Launch} {e : Env} {s : State} {m : MethodId} {args : Array Value} {below : List Frame} {meth : Method} {c : Code} {D : va_G} {κ : Nat → ClassId} {τ : Nat → Nat} {a : Nat → Nat}   {Q : Int32 → Mx → Prop} (Cc : Cx D κ RX5 cX5_granted 3 (some .int) p s m args meth c) (hIt : Ij a 13)   (n : Nat) : ∀ (x1 : Int32) (x2 : Int32) (σ : Mx) (H : Heap) (locs : List Loc) (hPt : va_P D classes (wMo κ τ a σ) H) (hS : va_S (cA a 13) s.heap H locs) (ls : Array Slot) (hl : lv_has ls 3 [(0, .ref (a 0)), (1, .int x1), (2, .int x2)]) (h : pX5_granted_28 Q n x1 x2 σ), W p l e rX5_granted s m args below meth c H locs 0 0 (MQ below (QWi Q (fun u H => va_P D classes (wMo κ τ a u) H) (cA a 13)) args s 0 0 (cA a 13)) (F0 m 28 ls []) := by
  obtain ⟨hx, hb, hml, hown, hts, hr, hlk, hE⟩ := id Cc
  induction n with
  | zero =>
    intro x1 x2 σ H locs hPt hS ls hl h
    exact absurd h (fun z => z)
  | succ n hih28 =>
    intro x1 x2 σ H locs hPt hS ls hl h
    have h : pX5_granted_28s (pX5_granted_28 Q n) Q x1 x2 σ := h
    unfold pX5_granted_28s at h
    refine lv_iload_n hx hb dX5_granted_28 rfl (lv_at hl 2 rfl) ?_
    refine lv_sipush (v := 200) hx hb dX5_granted_29 (by decide) ?_
    refine lv_icmp_ge (tgt := 53) hx hb dX5_granted_32 (by decide) (fun c32 => ?_) (fun c32 => ?_)
    · have h := h.1 c32
      exact bX5_granted_53 Cc hIt x1 x2 σ _ _ hPt hS _ (lv_sub hl [0, 1, 2] rfl) h
    · have h := h.2 c32
      refine lv_aload_n hx hb dX5_granted_35 rfl (lv_at hl 0 rfl) ?_
      refine lv_iload_n hx hb dX5_granted_36 rfl (lv_at hl 1 rfl) ?_
      refine kR (kV Cc (mX5_isGranted l D κ τ a h) (qX5_isGranted hts (tw_972 hts) ⟨(Nat.le_of_ble_eq_true rfl), (Nat.le_of_ble_eq_true rfl)⟩) (va_recv hE.1 hPt (ci := 5) (q0 := 0) rfl rfl) (rest := []) hPt rfl hl.1 rfl (Nat.le_of_ble_eq_true rfl) dX5_granted_37 ⟨Nat.zero_le _, Nat.zero_le _⟩) (fun r37 h => ?_)
      refine lv_if_ne (tgt := 53) hx hb dX5_granted_40 (by decide) (fun c40 => ?_) (fun c40 => ?_)
      · have h := h.1 c40
        exact bX5_granted_53 Cc hIt x1 x2 σ _ _ hPt hS _ (lv_sub hl [0, 1, 2] rfl) h
      · have h := h.2 c40
        refine lv_aload_n hx hb dX5_granted_43 rfl (lv_at hl 0 rfl) ?_
        refine kWv (kV Cc (mX5_year l D κ τ a hIt h) (qX5_year hts (tw_951 hts) ⟨(Nat.le_of_ble_eq_true rfl), (Nat.le_of_ble_eq_true rfl)⟩) (va_recv hE.1 hPt (ci := 5) (q0 := 0) rfl rfl) (rest := []) hPt rfl hl.1 rfl (Nat.le_of_ble_eq_true rfl) dX5_granted_44 ⟨Nat.zero_le _, Nat.zero_le _⟩) hS (fun q h9 => h9) (fun  u44 H1 locs1 h hB hk hS1 => ?_)
        have hPt := hB
        have hS := hS1
        refine lv_iinc (v := (x2 + 1)) (lv' := [(2, .int (x2 + 1)), (0, .ref (a 0)), (1, .int x1)]) hx hb dX5_granted_47 hl (k := 2) rfl rfl (by decide) rfl (fun ls hl => ?_)
        refine lv_goto (tgt := 28) hx hb dX5_granted_50 (by decide) ?_
        exact hih28 x1 (x2 + 1) u44 _ _ hPt hS _ (lv_sub hl [1, 2, 0] rfl) h
set_option maxHeartbeats 4000000 in
set_option maxRecDepth 100000 in
theorem mX5_granted (l : Launch) (D : va_G) (κ : Nat → ClassId) (τ : Nat → Nat) (a : Nat → Nat) {σ : Mx} {x1 : Int32} {Q : Int32 → Mx → Prop} (hIt : Ij a 13) (h : pX5_granted σ x1 Q) : Met l yX5_granted (wz yX5_granted cX5_granted 3 (some .int)) rX5_granted (va_Pc [.ref (a 0), .int x1] (PE D κ (fun H => va_P D classes (wMo κ τ a σ) H))) (QWi Q (fun u H => va_P D classes (wMo κ τ a u) H) (cA a 13)) 0 0 (cA a 13) := by
  refine Met_of l (own := RX5) (by decide) rfl (Nat.le_of_ble_eq_true rfl) (fun p e s m below meth c Cc hPP ls hl => ?_)
  obtain ⟨hx, hb, hml, hown, hts, hr, hlk, hE⟩ := id Cc
  have hl : lv_has ls 3 [(0, .ref (a 0)), (1, .int x1)] := hl
  have hPt := hPP
  have hS : va_S (cA a 13) s.heap s.heap [] := va_S.rf
  unfold pX5_granted at h
  refine lv_aload_n hx hb dX5_granted_0 rfl (lv_at hl 0 rfl) ?_
  refine lv_iload_n hx hb dX5_granted_1 rfl (lv_at hl 1 rfl) ?_
  refine kR (kV Cc (mX5_isPiece l D κ τ a h) (qX5_isPiece hts (tw_873 hts) ⟨(Nat.le_of_ble_eq_true rfl), (Nat.le_of_ble_eq_true rfl)⟩) (va_recv hE.1 hPt (ci := 5) (q0 := 0) rfl rfl) (rest := []) hPt rfl hl.1 rfl (Nat.le_of_ble_eq_true rfl) dX5_granted_2 ⟨Nat.zero_le _, Nat.zero_le _⟩) (fun r2 h => ?_)
  refine lv_if_ne (tgt := 15) hx hb dX5_granted_5 (by decide) (fun c5 => ?_) (fun c5 => ?_)
  · have h := h.1 c5
    refine lv_aload_n hx hb dX5_granted_15 rfl (lv_at hl 0 rfl) ?_
    refine gMo_0 Cc hPt (tw_761 hts) dX5_granted_16 ?_
    refine lv_aload_n hx hb dX5_granted_19 rfl (lv_at hl 0 rfl) ?_
    refine gMo_2 Cc hPt (tw_763 hts) dX5_granted_20 ?_
    refine kWv (kS Cc (mX5_copyRow_02 l D κ τ a hIt h) (qX5_copyRow_02 hts (tw_1014 hts) ⟨(Nat.le_of_ble_eq_true rfl), (Nat.le_of_ble_eq_true rfl)⟩) (rest := []) hPt rfl hl.1 rfl (Nat.le_of_ble_eq_true rfl) dX5_granted_23 ⟨Nat.zero_le _, Nat.zero_le _⟩) hS (fun q h9 => h9) (fun  u23 H1 locs1 h hB hk hS1 => ?_)
    have hPt := hB
    have hS := hS1
    refine lv_iconst (v := 0) hx hb dX5_granted_26 (by decide) ?_
    refine lv_istore_n (lv' := [(2, .int 0), (0, .ref (a 0)), (1, .int x1)]) hx hb dX5_granted_27 rfl hl (by decide) rfl (fun ls hl => ?_)
    obtain ⟨n, h⟩ := h
    exact bX5_granted_28 Cc hIt n x1 0 u23 _ _ hPt hS _ (lv_sub hl [1, 2, 0] rfl) h
  · have h := h.2 c5
    refine lv_aload_n hx hb dX5_granted_8 rfl (lv_at hl 0 rfl) ?_
    refine lv_ldc (own := RX5) (v := (-1000001)) hx hb hown (tw_842 hts) dX5_granted_9 ?_
    refine kWi (kV Cc (mX5_finding l D κ τ a hIt h) (qX5_finding hts (tw_843 hts) ⟨(Nat.le_of_ble_eq_true rfl), (Nat.le_of_ble_eq_true rfl)⟩) (va_recv hE.1 hPt (ci := 5) (q0 := 0) rfl rfl) (rest := []) hPt rfl hl.1 rfl (Nat.le_of_ble_eq_true rfl) dX5_granted_11 ⟨Nat.zero_le _, Nat.zero_le _⟩) hS (fun q h9 => h9) (fun r11 u11 H1 locs1 h hB hk hS1 => ?_)
    have hPt := hB
    have hS := hS1
    exact W.iret (v := r11) hx hb hr (fun t ht _ => QWi.mk (u := u11) h hPt hS ht) hS.2.2 dX5_granted_14 (hlocks := hlk)
theorem qX5_granted {R : Room} {s : State} {args : Array Value} {own : String} {idx : Nat} (hts : ∀ w ∈ gG, w.before args s = true) (hl : (Cond.methodLink own idx yX5_granted).before args s = true) (hR : rX5_granted.frames + 1 ≤ R.frames ∧ 8 + (3 + 11) + rX5_granted.locals ≤ R.locals) : CallW R s args own RX5 idx yX5_granted cX5_granted 3 (some .int) (wz yX5_granted cX5_granted 3 (some .int)) rX5_granted 0 0 1 := ⟨kw 1 hts mw_1041 rfl rfl (tw_75 hts) hl (by decide +kernel) hR, tw_1039 hts, tw_1040 hts⟩
abbrev rX5_best : Room := { frames := 7, cells := 0, slots := 0, locals := 158 }
def pX5_best (σ : Mx)  (Q : Int32 → Mx → Prop) : Prop := pX5_bestSum σ (fun r1 u1 => (Q r1 u1))
set_option maxHeartbeats 4000000 in
set_option maxRecDepth 100000 in
theorem mX5_best (l : Launch) (D : va_G) (κ : Nat → ClassId) (τ : Nat → Nat) (a : Nat → Nat) {σ : Mx}  {Q : Int32 → Mx → Prop} (hIt : Ij a 13) (h : pX5_best σ  Q) : Met l yX5_best (wz yX5_best cX5_best 1 (some .int)) rX5_best (va_Pc [.ref (a 0)] (PE D κ (fun H => va_P D classes (wMo κ τ a σ) H))) (QWi Q (fun u H => va_P D classes (wMo κ τ a u) H) (cA a 13)) 0 0 (cA a 13) := by
  refine Met_of l (own := RX5) (by decide) rfl (Nat.le_of_ble_eq_true rfl) (fun p e s m below meth c Cc hPP ls hl => ?_)
  obtain ⟨hx, hb, hml, hown, hts, hr, hlk, hE⟩ := id Cc
  have hl : lv_has ls 1 [(0, .ref (a 0))] := hl
  have hPt := hPP
  have hS : va_S (cA a 13) s.heap s.heap [] := va_S.rf
  unfold pX5_best at h
  refine lv_aload_n hx hb dX5_best_0 rfl (lv_at hl 0 rfl) ?_
  refine kWi (kV Cc (mX5_bestSum l D κ τ a hIt h) (qX5_bestSum hts (tw_985 hts) ⟨(Nat.le_of_ble_eq_true rfl), (Nat.le_of_ble_eq_true rfl)⟩) (va_recv hE.1 hPt (ci := 5) (q0 := 0) rfl rfl) (rest := []) hPt rfl hl.1 rfl (Nat.le_of_ble_eq_true rfl) dX5_best_1 ⟨Nat.zero_le _, Nat.zero_le _⟩) hS (fun q h9 => h9) (fun r1 u1 H1 locs1 h hB hk hS1 => ?_)
  have hPt := hB
  have hS := hS1
  exact W.iret (v := r1) hx hb hr (fun t ht _ => QWi.mk (u := u1) h hPt hS ht) hS.2.2 dX5_best_4 (hlocks := hlk)
theorem qX5_best {R : Room} {s : State} {args : Array Value} {own : String} {idx : Nat} (hts : ∀ w ∈ gG, w.before args s = true) (hl : (Cond.methodLink own idx yX5_best).before args s = true) (hR : rX5_best.frames + 1 ≤ R.frames ∧ 8 + (1 + 11) + rX5_best.locals ≤ R.locals) : CallW R s args own RX5 idx yX5_best cX5_best 1 (some .int) (wz yX5_best cX5_best 1 (some .int)) rX5_best 0 0 0 := ⟨kw 0 hts mw_1045 rfl rfl (tw_75 hts) hl (by decide +kernel) hR, tw_1043 hts, tw_1044 hts⟩
abbrev rX5_bestAt : Room := { frames := 6, cells := 0, slots := 0, locals := 137 }
def pX5_bestAt_29s  (ih29 : Int32 → Int32 → Int32 → Int32 → Mx → Prop) (Q : Int32 → Mx → Prop) (x1 : Int32) (x2 : Int32) (x3 : Int32) (x4 : Int32) (σ : Mx) : Prop := (x1 < x4 → (Q x3 σ)) ∧ (¬ x1 < x4 → (pX5_bestNext σ x2 x3 (fun r38 => (∀ v49 : Int32, v49 = (x2 &&& ((1 <<< (r38 &&& 31)) ^^^ (-1))) → (ih29 x1 v49 r38 (x4 + 1) σ)))))
noncomputable def pX5_bestAt_29 (Q : Int32 → Mx → Prop) (n : Nat) : Int32 → Int32 → Int32 → Int32 → Mx → Prop := Nat.rec (motive := fun _ => Int32 → Int32 → Int32 → Int32 → Mx → Prop) (fun _ _ _ _ _ => False) (fun _ ih => pX5_bestAt_29s ih Q) n
def pX5_bestAt (σ : Mx) (x1 : Int32) (Q : Int32 → Mx → Prop) : Prop := pX5_isPiece σ x1 (fun r2 => ((¬ r2 = 0 → (pX5_isTabled σ (fun u16 => (pX5_everything u16 (fun r20 => (∃ n, pX5_bestAt_29 Q n x1 r20 (-1) 0 u16)))))) ∧ (r2 = 0 → (pX5_finding σ (-1000001) (fun r11 u11 => (Q r11 u11))))))
set_option maxHeartbeats 4000000 in
set_option maxRecDepth 100000 in
theorem bX5_bestAt_29 {p : Program} {l : Launch} {e : Env} {s : State} {m : MethodId} {args : Array Value} {below : List Frame} {meth : Method} {c : Code} {D : va_G} {κ : Nat → ClassId} {τ : Nat → Nat} {a : Nat → Nat}   {Q : Int32 → Mx → Prop} (Cc : Cx D κ RX5 cX5_bestAt 5 (some .int) p s m args meth c) (hIt : Ij a 13)   (n : Nat) : ∀ (x1 : Int32) (x2 : Int32) (x3 : Int32) (x4 : Int32) (σ : Mx) (H : Heap) (locs : List Loc) (hPt : va_P D classes (wMo κ τ a σ) H) (hS : va_S (cA a 13) s.heap H locs) (ls : Array Slot) (hl : lv_has ls 5 [(0, .ref (a 0)), (1, .int x1), (2, .int x2), (3, .int x3), (4, .int x4)]) (h : pX5_bestAt_29 Q n x1 x2 x3 x4 σ), W p l e rX5_bestAt s m args below meth c H locs 0 0 (MQ below (QWi Q (fun u H => va_P D classes (wMo κ τ a u) H) (cA a 13)) args s 0 0 (cA a 13)) (F0 m 29 ls []) := by
  obtain ⟨hx, hb, hml, hown, hts, hr, hlk, hE⟩ := id Cc
  induction n with
  | zero =>
    intro x1 x2 x3 x4 σ H locs hPt hS ls hl h
    exact absurd h (fun z => z)
  | succ n hih29 =>
    intro x1 x2 x3 x4 σ H locs hPt hS ls hl h
    have h : pX5_bestAt_29s (pX5_bestAt_29 Q n) Q x1 x2 x3 x4 σ := h
    unfold pX5_bestAt_29s at h
    refine lv_iload hx hb dX5_bestAt_29 (lv_at hl 4 rfl) ?_
    refine lv_iload_n hx hb dX5_bestAt_31 rfl (lv_at hl 1 rfl) ?_
    refine lv_icmp_gt (tgt := 56) hx hb dX5_bestAt_32 (by decide) (fun c32 => ?_) (fun c32 => ?_)
    · have h := h.1 c32
      refine lv_iload_n hx hb dX5_bestAt_56 rfl (lv_at hl 3 rfl) ?_
      exact W.iret (v := x3) hx hb hr (fun t ht _ => QWi.mk (u := σ) h hPt hS ht) hS.2.2 dX5_bestAt_57 (hlocks := hlk)
    · have h := h.2 c32
      refine lv_aload_n hx hb dX5_bestAt_35 rfl (lv_at hl 0 rfl) ?_
      refine lv_iload_n hx hb dX5_bestAt_36 rfl (lv_at hl 2 rfl) ?_
      refine lv_iload_n hx hb dX5_bestAt_37 rfl (lv_at hl 3 rfl) ?_
      refine kR (kV Cc (mX5_bestNext l D κ τ a h) (qX5_bestNext hts (tw_1002 hts) ⟨(Nat.le_of_ble_eq_true rfl), (Nat.le_of_ble_eq_true rfl)⟩) (va_recv hE.1 hPt (ci := 5) (q0 := 0) rfl rfl) (rest := []) hPt rfl hl.1 rfl (Nat.le_of_ble_eq_true rfl) dX5_bestAt_38 ⟨Nat.zero_le _, Nat.zero_le _⟩) (fun r38 h => ?_)
      refine lv_istore_n (lv' := [(3, .int r38), (0, .ref (a 0)), (1, .int x1), (2, .int x2), (4, .int x4)]) hx hb dX5_bestAt_41 rfl hl (by decide) rfl (fun ls hl => ?_)
      refine lv_iload_n hx hb dX5_bestAt_42 rfl (lv_at hl 3 rfl) ?_
      refine lv_iconst (v := 1) hx hb dX5_bestAt_43 (by decide) ?_
      refine lv_iload_n hx hb dX5_bestAt_44 rfl (lv_at hl 0 rfl) ?_
      refine lv_ishl hx hb dX5_bestAt_45 ?_
      refine lv_iconst (v := (-1)) hx hb dX5_bestAt_46 (by decide) ?_
      refine lv_ixor hx hb dX5_bestAt_47 ?_
      refine lv_iand hx hb dX5_bestAt_48 ?_
      refine lv_topi (fun v49 e49 => ?_)
      have h := h v49 e49
      refine lv_istore_n (lv' := [(2, .int v49), (3, .int r38), (0, .ref (a 0)), (1, .int x1), (4, .int x4)]) hx hb dX5_bestAt_49 rfl hl (by decide) rfl (fun ls hl => ?_)
      refine lv_iinc (v := (x4 + 1)) (lv' := [(4, .int (x4 + 1)), (2, .int v49), (3, .int r38), (0, .ref (a 0)), (1, .int x1)]) hx hb dX5_bestAt_50 hl (k := 4) rfl rfl (by decide) rfl (fun ls hl => ?_)
      refine lv_goto (tgt := 29) hx hb dX5_bestAt_53 (by decide) ?_
      exact hih29 x1 v49 r38 (x4 + 1) σ _ _ hPt hS _ (lv_sub hl [3, 4, 1, 2, 0] rfl) h
set_option maxHeartbeats 4000000 in
set_option maxRecDepth 100000 in
theorem mX5_bestAt (l : Launch) (D : va_G) (κ : Nat → ClassId) (τ : Nat → Nat) (a : Nat → Nat) {σ : Mx} {x1 : Int32} {Q : Int32 → Mx → Prop} (hIt : Ij a 13) (h : pX5_bestAt σ x1 Q) : Met l yX5_bestAt (wz yX5_bestAt cX5_bestAt 5 (some .int)) rX5_bestAt (va_Pc [.ref (a 0), .int x1] (PE D κ (fun H => va_P D classes (wMo κ τ a σ) H))) (QWi Q (fun u H => va_P D classes (wMo κ τ a u) H) (cA a 13)) 0 0 (cA a 13) := by
  refine Met_of l (own := RX5) (by decide) rfl (Nat.le_of_ble_eq_true rfl) (fun p e s m below meth c Cc hPP ls hl => ?_)
  obtain ⟨hx, hb, hml, hown, hts, hr, hlk, hE⟩ := id Cc
  have hl : lv_has ls 5 [(0, .ref (a 0)), (1, .int x1)] := hl
  have hPt := hPP
  have hS : va_S (cA a 13) s.heap s.heap [] := va_S.rf
  unfold pX5_bestAt at h
  refine lv_aload_n hx hb dX5_bestAt_0 rfl (lv_at hl 0 rfl) ?_
  refine lv_iload_n hx hb dX5_bestAt_1 rfl (lv_at hl 1 rfl) ?_
  refine kR (kV Cc (mX5_isPiece l D κ τ a h) (qX5_isPiece hts (tw_873 hts) ⟨(Nat.le_of_ble_eq_true rfl), (Nat.le_of_ble_eq_true rfl)⟩) (va_recv hE.1 hPt (ci := 5) (q0 := 0) rfl rfl) (rest := []) hPt rfl hl.1 rfl (Nat.le_of_ble_eq_true rfl) dX5_bestAt_2 ⟨Nat.zero_le _, Nat.zero_le _⟩) (fun r2 h => ?_)
  refine lv_if_ne (tgt := 15) hx hb dX5_bestAt_5 (by decide) (fun c5 => ?_) (fun c5 => ?_)
  · have h := h.1 c5
    refine lv_aload_n hx hb dX5_bestAt_15 rfl (lv_at hl 0 rfl) ?_
    refine kWv (kV Cc (mX5_isTabled l D κ τ a hIt h) (qX5_isTabled hts (tw_989 hts) ⟨(Nat.le_of_ble_eq_true rfl), (Nat.le_of_ble_eq_true rfl)⟩) (va_recv hE.1 hPt (ci := 5) (q0 := 0) rfl rfl) (rest := []) hPt rfl hl.1 rfl (Nat.le_of_ble_eq_true rfl) dX5_bestAt_16 ⟨Nat.zero_le _, Nat.zero_le _⟩) hS (fun q h9 => h9) (fun  u16 H1 locs1 h hB hk hS1 => ?_)
    have hPt := hB
    have hS := hS1
    refine lv_aload_n hx hb dX5_bestAt_19 rfl (lv_at hl 0 rfl) ?_
    refine kR (kV Cc (mX5_everything l D κ τ a h) (qX5_everything hts (tw_998 hts) ⟨(Nat.le_of_ble_eq_true rfl), (Nat.le_of_ble_eq_true rfl)⟩) (va_recv hE.1 hPt (ci := 5) (q0 := 0) rfl rfl) (rest := []) hPt rfl hl.1 rfl (Nat.le_of_ble_eq_true rfl) dX5_bestAt_20 ⟨Nat.zero_le _, Nat.zero_le _⟩) (fun r20 h => ?_)
    refine lv_istore_n (lv' := [(2, .int r20), (0, .ref (a 0)), (1, .int x1)]) hx hb dX5_bestAt_23 rfl hl (by decide) rfl (fun ls hl => ?_)
    refine lv_iconst (v := (-1)) hx hb dX5_bestAt_24 (by decide) ?_
    refine lv_istore_n (lv' := [(3, .int (-1)), (2, .int r20), (0, .ref (a 0)), (1, .int x1)]) hx hb dX5_bestAt_25 rfl hl (by decide) rfl (fun ls hl => ?_)
    refine lv_iconst (v := 0) hx hb dX5_bestAt_26 (by decide) ?_
    refine lv_istore (lv' := [(4, .int 0), (3, .int (-1)), (2, .int r20), (0, .ref (a 0)), (1, .int x1)]) hx hb dX5_bestAt_27 hl (by decide) rfl (fun ls hl => ?_)
    obtain ⟨n, h⟩ := h
    exact bX5_bestAt_29 Cc hIt n x1 r20 (-1) 0 u16 _ _ hPt hS _ (lv_sub hl [3, 4, 2, 1, 0] rfl) h
  · have h := h.2 c5
    refine lv_aload_n hx hb dX5_bestAt_8 rfl (lv_at hl 0 rfl) ?_
    refine lv_ldc (own := RX5) (v := (-1000001)) hx hb hown (tw_842 hts) dX5_bestAt_9 ?_
    refine kWi (kV Cc (mX5_finding l D κ τ a hIt h) (qX5_finding hts (tw_843 hts) ⟨(Nat.le_of_ble_eq_true rfl), (Nat.le_of_ble_eq_true rfl)⟩) (va_recv hE.1 hPt (ci := 5) (q0 := 0) rfl rfl) (rest := []) hPt rfl hl.1 rfl (Nat.le_of_ble_eq_true rfl) dX5_bestAt_11 ⟨Nat.zero_le _, Nat.zero_le _⟩) hS (fun q h9 => h9) (fun r11 u11 H1 locs1 h hB hk hS1 => ?_)
    have hPt := hB
    have hS := hS1
    exact W.iret (v := r11) hx hb hr (fun t ht _ => QWi.mk (u := u11) h hPt hS ht) hS.2.2 dX5_bestAt_14 (hlocks := hlk)
theorem qX5_bestAt {R : Room} {s : State} {args : Array Value} {own : String} {idx : Nat} (hts : ∀ w ∈ gG, w.before args s = true) (hl : (Cond.methodLink own idx yX5_bestAt).before args s = true) (hR : rX5_bestAt.frames + 1 ≤ R.frames ∧ 8 + (5 + 11) + rX5_bestAt.locals ≤ R.locals) : CallW R s args own RX5 idx yX5_bestAt cX5_bestAt 5 (some .int) (wz yX5_bestAt cX5_bestAt 5 (some .int)) rX5_bestAt 0 0 1 := ⟨kw 1 hts mw_1049 rfl rfl (tw_75 hts) hl (by decide +kernel) hR, tw_1047 hts, tw_1048 hts⟩
abbrev rX5_settle : Room := { frames := 6, cells := 0, slots := 0, locals := 138 }
def pX5_settle_7s  (ih7 : Int32 → Int32 → Mx → Prop) (Q : Int32 → Mx → Prop) (x1 : Int32) (x2 : Int32) (σ : Mx) : Prop := (x2 < 0 → (Q x1 σ)) ∧ (¬ x2 < 0 → (pX5_exchange σ (x2 / 8) (x2 - x2 / 8 * 8) (fun u20 => (pX5_betterSwap u20 (fun r27 u27 => (ih7 (x1 + 1) r27 u27))))))
noncomputable def pX5_settle_7 (Q : Int32 → Mx → Prop) (n : Nat) : Int32 → Int32 → Mx → Prop := Nat.rec (motive := fun _ => Int32 → Int32 → Mx → Prop) (fun _ _ _ => False) (fun _ ih => pX5_settle_7s ih Q) n
def pX5_settle (σ : Mx)  (Q : Int32 → Mx → Prop) : Prop := pX5_betterSwap σ (fun r3 u3 => (∃ n, pX5_settle_7 Q n 0 r3 u3))
set_option maxHeartbeats 4000000 in
set_option maxRecDepth 100000 in
theorem bX5_settle_7 {p : Program} {l : Launch} {e : Env} {s : State} {m : MethodId} {args : Array Value} {below : List Frame} {meth : Method} {c : Code} {D : va_G} {κ : Nat → ClassId} {τ : Nat → Nat} {a : Nat → Nat}   {Q : Int32 → Mx → Prop} (Cc : Cx D κ RX5 cX5_settle 3 (some .int) p s m args meth c) (hIt : Ij a 13)   (n : Nat) : ∀ (x1 : Int32) (x2 : Int32) (σ : Mx) (H : Heap) (locs : List Loc) (hPt : va_P D classes (wMo κ τ a σ) H) (hS : va_S (cA a 13) s.heap H locs) (ls : Array Slot) (hl : lv_has ls 3 [(0, .ref (a 0)), (1, .int x1), (2, .int x2)]) (h : pX5_settle_7 Q n x1 x2 σ), W p l e rX5_settle s m args below meth c H locs 0 0 (MQ below (QWi Q (fun u H => va_P D classes (wMo κ τ a u) H) (cA a 13)) args s 0 0 (cA a 13)) (F0 m 7 ls []) := by
  obtain ⟨hx, hb, hml, hown, hts, hr, hlk, hE⟩ := id Cc
  induction n with
  | zero =>
    intro x1 x2 σ H locs hPt hS ls hl h
    exact absurd h (fun z => z)
  | succ n hih7 =>
    intro x1 x2 σ H locs hPt hS ls hl h
    have h : pX5_settle_7s (pX5_settle_7 Q n) Q x1 x2 σ := h
    unfold pX5_settle_7s at h
    refine lv_iload_n hx hb dX5_settle_7 rfl (lv_at hl 2 rfl) ?_
    refine lv_if_lt (tgt := 34) hx hb dX5_settle_8 (by decide) (fun c8 => ?_) (fun c8 => ?_)
    · have h := h.1 c8
      refine lv_iload_n hx hb dX5_settle_34 rfl (lv_at hl 1 rfl) ?_
      exact W.iret (v := x1) hx hb hr (fun t ht _ => QWi.mk (u := σ) h hPt hS ht) hS.2.2 dX5_settle_35 (hlocks := hlk)
    · have h := h.2 c8
      refine lv_aload_n hx hb dX5_settle_11 rfl (lv_at hl 0 rfl) ?_
      refine lv_iload_n hx hb dX5_settle_12 rfl (lv_at hl 2 rfl) ?_
      refine lv_bipush (v := 8) hx hb dX5_settle_13 (by decide) ?_
      refine lv_idiv hx hb dX5_settle_15 (by decide) ?_
      refine lv_iload_n hx hb dX5_settle_16 rfl (lv_at hl 2 rfl) ?_
      refine lv_bipush (v := 8) hx hb dX5_settle_17 (by decide) ?_
      refine lv_irem hx hb dX5_settle_19 (by decide) ?_
      refine kWv (kV Cc (mX5_exchange l D κ τ a hIt h) (qX5_exchange hts (tw_933 hts) ⟨(Nat.le_of_ble_eq_true rfl), (Nat.le_of_ble_eq_true rfl)⟩) (va_recv hE.1 hPt (ci := 5) (q0 := 0) rfl rfl) (rest := []) hPt rfl hl.1 rfl (Nat.le_of_ble_eq_true rfl) dX5_settle_20 ⟨Nat.zero_le _, Nat.zero_le _⟩) hS (fun q h9 => h9) (fun  u20 H1 locs1 h hB hk hS1 => ?_)
      have hPt := hB
      have hS := hS1
      refine lv_iinc (v := (x1 + 1)) (lv' := [(1, .int (x1 + 1)), (0, .ref (a 0)), (2, .int x2)]) hx hb dX5_settle_23 hl (k := 1) rfl rfl (by decide) rfl (fun ls hl => ?_)
      refine lv_aload_n hx hb dX5_settle_26 rfl (lv_at hl 1 rfl) ?_
      refine kWi (kV Cc (mX5_betterSwap l D κ τ a hIt h) (qX5_betterSwap hts (tw_1006 hts) ⟨(Nat.le_of_ble_eq_true rfl), (Nat.le_of_ble_eq_true rfl)⟩) (va_recv hE.1 hPt (ci := 5) (q0 := 0) rfl rfl) (rest := []) hPt rfl hl.1 rfl (Nat.le_of_ble_eq_true rfl) dX5_settle_27 ⟨Nat.zero_le _, Nat.zero_le _⟩) hS (fun q h9 => h9) (fun r27 u27 H1 locs1 h hB hk hS1 => ?_)
      have hPt := hB
      have hS := hS1
      refine lv_istore_n (lv' := [(2, .int r27), (1, .int (x1 + 1)), (0, .ref (a 0))]) hx hb dX5_settle_30 rfl hl (by decide) rfl (fun ls hl => ?_)
      refine lv_goto (tgt := 7) hx hb dX5_settle_31 (by decide) ?_
      exact hih7 (x1 + 1) r27 u27 _ _ hPt hS _ (lv_sub hl [2, 1, 0] rfl) h
set_option maxHeartbeats 4000000 in
set_option maxRecDepth 100000 in
theorem mX5_settle (l : Launch) (D : va_G) (κ : Nat → ClassId) (τ : Nat → Nat) (a : Nat → Nat) {σ : Mx}  {Q : Int32 → Mx → Prop} (hIt : Ij a 13) (h : pX5_settle σ  Q) : Met l yX5_settle (wz yX5_settle cX5_settle 3 (some .int)) rX5_settle (va_Pc [.ref (a 0)] (PE D κ (fun H => va_P D classes (wMo κ τ a σ) H))) (QWi Q (fun u H => va_P D classes (wMo κ τ a u) H) (cA a 13)) 0 0 (cA a 13) := by
  refine Met_of l (own := RX5) (by decide) rfl (Nat.le_of_ble_eq_true rfl) (fun p e s m below meth c Cc hPP ls hl => ?_)
  obtain ⟨hx, hb, hml, hown, hts, hr, hlk, hE⟩ := id Cc
  have hl : lv_has ls 3 [(0, .ref (a 0))] := hl
  have hPt := hPP
  have hS : va_S (cA a 13) s.heap s.heap [] := va_S.rf
  unfold pX5_settle at h
  refine lv_iconst (v := 0) hx hb dX5_settle_0 (by decide) ?_
  refine lv_istore_n (lv' := [(1, .int 0), (0, .ref (a 0))]) hx hb dX5_settle_1 rfl hl (by decide) rfl (fun ls hl => ?_)
  refine lv_aload_n hx hb dX5_settle_2 rfl (lv_at hl 1 rfl) ?_
  refine kWi (kV Cc (mX5_betterSwap l D κ τ a hIt h) (qX5_betterSwap hts (tw_1006 hts) ⟨(Nat.le_of_ble_eq_true rfl), (Nat.le_of_ble_eq_true rfl)⟩) (va_recv hE.1 hPt (ci := 5) (q0 := 0) rfl rfl) (rest := []) hPt rfl hl.1 rfl (Nat.le_of_ble_eq_true rfl) dX5_settle_3 ⟨Nat.zero_le _, Nat.zero_le _⟩) hS (fun q h9 => h9) (fun r3 u3 H1 locs1 h hB hk hS1 => ?_)
  have hPt := hB
  have hS := hS1
  refine lv_istore_n (lv' := [(2, .int r3), (1, .int 0), (0, .ref (a 0))]) hx hb dX5_settle_6 rfl hl (by decide) rfl (fun ls hl => ?_)
  obtain ⟨n, h⟩ := h
  exact bX5_settle_7 Cc hIt n 0 r3 u3 _ _ hPt hS _ (lv_sub hl [2, 1, 0] rfl) h
theorem qX5_settle {R : Room} {s : State} {args : Array Value} {own : String} {idx : Nat} (hts : ∀ w ∈ gG, w.before args s = true) (hl : (Cond.methodLink own idx yX5_settle).before args s = true) (hR : rX5_settle.frames + 1 ≤ R.frames ∧ 8 + (3 + 11) + rX5_settle.locals ≤ R.locals) : CallW R s args own RX5 idx yX5_settle cX5_settle 3 (some .int) (wz yX5_settle cX5_settle 3 (some .int)) rX5_settle 0 0 0 := ⟨kw 0 hts mw_1053 rfl rfl (tw_75 hts) hl (by decide +kernel) hR, tw_1051 hts, tw_1052 hts⟩
abbrev rX5_cheapest : Room := { frames := 7, cells := 0, slots := 0, locals := 158 }
def pX5_cheapest_52 (ih17 : Int32 → Int32 → Int32 → Int32 → Int32 → Int32 → Mx → Prop) (Q : Int32 → Mx → Prop) (x1 : Int32) (x2 : Int32) (x3 : Int32) (x4 : Int32) (x5 : Int32) (x6 : Int32) (σ : Mx) : Prop := ih17 x1 x2 x3 x4 x5 (x6 + 1) σ
def pX5_cheapest_17s  (ih17 : Int32 → Int32 → Int32 → Int32 → Int32 → Int32 → Mx → Prop) (Q : Int32 → Mx → Prop) (x1 : Int32) (x2 : Int32) (x3 : Int32) (x4 : Int32) (x5 : Int32) (x6 : Int32) (σ : Mx) : Prop := (x2 ≤ x6 → (vp_in x1 67 ∧ (Q x4 (st σ 0 x1.toNatClampNeg x3)))) ∧ (¬ x2 ≤ x6 → (vp_in x1 67 ∧ (pX5_bestSum (st σ 0 x1.toNatClampNeg x6) (fun r32 u32 => ((x5 ≤ r32 → (pX5_cheapest_52 ih17 Q x1 x2 x3 x4 x5 x6 u32)) ∧ (¬ x5 ≤ r32 → (pX5_cheapest_52 ih17 Q x1 x2 x3 x6 r32 x6 u32)))))))
noncomputable def pX5_cheapest_17 (Q : Int32 → Mx → Prop) (n : Nat) : Int32 → Int32 → Int32 → Int32 → Int32 → Int32 → Mx → Prop := Nat.rec (motive := fun _ => Int32 → Int32 → Int32 → Int32 → Int32 → Int32 → Mx → Prop) (fun _ _ _ _ _ _ _ => False) (fun _ ih => pX5_cheapest_17s ih Q) n
def pX5_cheapest (σ : Mx) (x1 : Int32) (x2 : Int32) (Q : Int32 → Mx → Prop) : Prop := vp_in x1 67 ∧ (∀ v6 : Int32, v6 = (σ 0 x1.toNatClampNeg) → (∃ n, pX5_cheapest_17 Q n x1 x2 v6 0 1000000 0 σ))
set_option maxHeartbeats 4000000 in
set_option maxRecDepth 100000 in
theorem bX5_cheapest_52 {p : Program} {l : Launch} {e : Env} {s : State} {m : MethodId} {args : Array Value} {below : List Frame} {meth : Method} {c : Code} {D : va_G} {κ : Nat → ClassId} {τ : Nat → Nat} {a : Nat → Nat}  {ih17 : Int32 → Int32 → Int32 → Int32 → Int32 → Int32 → Mx → Prop} {Q : Int32 → Mx → Prop} (Cc : Cx D κ RX5 cX5_cheapest 8 (some .int) p s m args meth c) (hIt : Ij a 13)  (hih17 : ∀ (x1 : Int32) (x2 : Int32) (x3 : Int32) (x4 : Int32) (x5 : Int32) (x6 : Int32) (σ : Mx) (H : Heap) (locs : List Loc) (hPt : va_P D classes (wMo κ τ a σ) H) (hS : va_S (cA a 13) s.heap H locs) (ls : Array Slot) (hl : lv_has ls 8 [(0, .ref (a 0)), (1, .int x1), (2, .int x2), (3, .int x3), (4, .int x4), (5, .int x5), (6, .int x6)]) (h : ih17 x1 x2 x3 x4 x5 x6 σ), W p l e rX5_cheapest s m args below meth c H locs 0 0 (MQ below (QWi Q (fun u H => va_P D classes (wMo κ τ a u) H) (cA a 13)) args s 0 0 (cA a 13)) (F0 m 17 ls [])) : ∀ (x1 : Int32) (x2 : Int32) (x3 : Int32) (x4 : Int32) (x5 : Int32) (x6 : Int32) (σ : Mx) (H : Heap) (locs : List Loc) (hPt : va_P D classes (wMo κ τ a σ) H) (hS : va_S (cA a 13) s.heap H locs) (ls : Array Slot) (hl : lv_has ls 8 [(0, .ref (a 0)), (1, .int x1), (2, .int x2), (3, .int x3), (4, .int x4), (5, .int x5), (6, .int x6)]) (h : pX5_cheapest_52 ih17 Q x1 x2 x3 x4 x5 x6 σ), W p l e rX5_cheapest s m args below meth c H locs 0 0 (MQ below (QWi Q (fun u H => va_P D classes (wMo κ τ a u) H) (cA a 13)) args s 0 0 (cA a 13)) (F0 m 52 ls []) := by
  obtain ⟨hx, hb, hml, hown, hts, hr, hlk, hE⟩ := id Cc
  intro x1 x2 x3 x4 x5 x6 σ H locs hPt hS ls hl h
  unfold pX5_cheapest_52 at h
  refine lv_iinc (v := (x6 + 1)) (lv' := [(6, .int (x6 + 1)), (0, .ref (a 0)), (1, .int x1), (2, .int x2), (3, .int x3), (4, .int x4), (5, .int x5)]) hx hb dX5_cheapest_52 hl (k := 6) rfl rfl (by decide) rfl (fun ls hl => ?_)
  refine lv_goto (tgt := 17) hx hb dX5_cheapest_55 (by decide) ?_
  exact hih17 x1 x2 x3 x4 x5 (x6 + 1) σ _ _ hPt hS _ (lv_sub hl [1, 2, 3, 4, 5, 6, 0] rfl) h
set_option maxHeartbeats 4000000 in
set_option maxRecDepth 100000 in
theorem bX5_cheapest_17 {p : Program} {l : Launch} {e : Env} {s : State} {m : MethodId} {args : Array Value} {below : List Frame} {meth : Method} {c : Code} {D : va_G} {κ : Nat → ClassId} {τ : Nat → Nat} {a : Nat → Nat}   {Q : Int32 → Mx → Prop} (Cc : Cx D κ RX5 cX5_cheapest 8 (some .int) p s m args meth c) (hIt : Ij a 13)   (n : Nat) : ∀ (x1 : Int32) (x2 : Int32) (x3 : Int32) (x4 : Int32) (x5 : Int32) (x6 : Int32) (σ : Mx) (H : Heap) (locs : List Loc) (hPt : va_P D classes (wMo κ τ a σ) H) (hS : va_S (cA a 13) s.heap H locs) (ls : Array Slot) (hl : lv_has ls 8 [(0, .ref (a 0)), (1, .int x1), (2, .int x2), (3, .int x3), (4, .int x4), (5, .int x5), (6, .int x6)]) (h : pX5_cheapest_17 Q n x1 x2 x3 x4 x5 x6 σ), W p l e rX5_cheapest s m args below meth c H locs 0 0 (MQ below (QWi Q (fun u H => va_P D classes (wMo κ τ a u) H) (cA a 13)) args s 0 0 (cA a 13)) (F0 m 17 ls []) := by
  obtain ⟨hx, hb, hml, hown, hts, hr, hlk, hE⟩ := id Cc
  induction n with
  | zero =>
    intro x1 x2 x3 x4 x5 x6 σ H locs hPt hS ls hl h
    exact absurd h (fun z => z)
  | succ n hih17 =>
    intro x1 x2 x3 x4 x5 x6 σ H locs hPt hS ls hl h
    have h : pX5_cheapest_17s (pX5_cheapest_17 Q n) Q x1 x2 x3 x4 x5 x6 σ := h
    unfold pX5_cheapest_17s at h
    refine lv_iload hx hb dX5_cheapest_17 (lv_at hl 6 rfl) ?_
    refine lv_iload_n hx hb dX5_cheapest_19 rfl (lv_at hl 2 rfl) ?_
    refine lv_icmp_ge (tgt := 58) hx hb dX5_cheapest_20 (by decide) (fun c20 => ?_) (fun c20 => ?_)
    · have h := h.1 c20
      refine lv_aload_n hx hb dX5_cheapest_58 rfl (lv_at hl 0 rfl) ?_
      refine gMo_0 Cc hPt (tw_761 hts) dX5_cheapest_59 ?_
      refine lv_iload_n hx hb dX5_cheapest_62 rfl (lv_at hl 1 rfl) ?_
      refine lv_iload_n hx hb dX5_cheapest_63 rfl (lv_at hl 3 rfl) ?_
      refine sMo_0 Cc hPt hIt hS ⟨1, by decide, rfl⟩ h.1 dX5_cheapest_64 (fun H1 locs1 hB hS1 hk => ?_)
      have h := h.2
      have hPt := hB
      have hS := hS1
      refine lv_iload hx hb dX5_cheapest_65 (lv_at hl 4 rfl) ?_
      exact W.iret (v := x4) hx hb hr (fun t ht _ => QWi.mk (u := (st σ 0 x1.toNatClampNeg x3)) h hPt hS ht) hS.2.2 dX5_cheapest_67 (hlocks := hlk)
    · have h := h.2 c20
      refine lv_aload_n hx hb dX5_cheapest_23 rfl (lv_at hl 0 rfl) ?_
      refine gMo_0 Cc hPt (tw_761 hts) dX5_cheapest_24 ?_
      refine lv_iload_n hx hb dX5_cheapest_27 rfl (lv_at hl 1 rfl) ?_
      refine lv_iload hx hb dX5_cheapest_28 (lv_at hl 6 rfl) ?_
      refine sMo_0 Cc hPt hIt hS ⟨1, by decide, rfl⟩ h.1 dX5_cheapest_30 (fun H1 locs1 hB hS1 hk => ?_)
      have h := h.2
      have hPt := hB
      have hS := hS1
      refine lv_aload_n hx hb dX5_cheapest_31 rfl (lv_at hl 0 rfl) ?_
      refine kWi (kV Cc (mX5_bestSum l D κ τ a hIt h) (qX5_bestSum hts (tw_985 hts) ⟨(Nat.le_of_ble_eq_true rfl), (Nat.le_of_ble_eq_true rfl)⟩) (va_recv hE.1 hPt (ci := 5) (q0 := 0) rfl rfl) (rest := []) hPt rfl hl.1 rfl (Nat.le_of_ble_eq_true rfl) dX5_cheapest_32 ⟨Nat.zero_le _, Nat.zero_le _⟩) hS (fun q h9 => h9) (fun r32 u32 H1 locs1 h hB hk hS1 => ?_)
      have hPt := hB
      have hS := hS1
      refine lv_istore (lv' := [(7, .int r32), (0, .ref (a 0)), (1, .int x1), (2, .int x2), (3, .int x3), (4, .int x4), (5, .int x5), (6, .int x6)]) hx hb dX5_cheapest_35 hl (by decide) rfl (fun ls hl => ?_)
      refine lv_iload hx hb dX5_cheapest_37 (lv_at hl 0 rfl) ?_
      refine lv_iload hx hb dX5_cheapest_39 (lv_at hl 6 rfl) ?_
      refine lv_icmp_ge (tgt := 52) hx hb dX5_cheapest_41 (by decide) (fun c41 => ?_) (fun c41 => ?_)
      · have h := h.1 c41
        exact bX5_cheapest_52 Cc hIt hih17 x1 x2 x3 x4 x5 x6 u32 _ _ hPt hS _ (lv_sub hl [1, 2, 3, 4, 5, 6, 7] rfl) h
      · have h := h.2 c41
        refine lv_iload hx hb dX5_cheapest_44 (lv_at hl 7 rfl) ?_
        refine lv_istore (lv' := [(4, .int x6), (7, .int r32), (0, .ref (a 0)), (1, .int x1), (2, .int x2), (3, .int x3), (5, .int x5), (6, .int x6)]) hx hb dX5_cheapest_46 hl (by decide) rfl (fun ls hl => ?_)
        refine lv_iload hx hb dX5_cheapest_48 (lv_at hl 1 rfl) ?_
        refine lv_istore (lv' := [(5, .int r32), (4, .int x6), (7, .int r32), (0, .ref (a 0)), (1, .int x1), (2, .int x2), (3, .int x3), (6, .int x6)]) hx hb dX5_cheapest_50 hl (by decide) rfl (fun ls hl => ?_)
        exact bX5_cheapest_52 Cc hIt hih17 x1 x2 x3 x6 r32 x6 u32 _ _ hPt hS _ (lv_sub hl [3, 4, 5, 6, 1, 0, 7] rfl) h
set_option maxHeartbeats 4000000 in
set_option maxRecDepth 100000 in
theorem mX5_cheapest (l : Launch) (D : va_G) (κ : Nat → ClassId) (τ : Nat → Nat) (a : Nat → Nat) {σ : Mx} {x1 : Int32} {x2 : Int32} {Q : Int32 → Mx → Prop} (hIt : Ij a 13) (h : pX5_cheapest σ x1 x2 Q) : Met l yX5_cheapest (wz yX5_cheapest cX5_cheapest 8 (some .int)) rX5_cheapest (va_Pc [.ref (a 0), .int x1, .int x2] (PE D κ (fun H => va_P D classes (wMo κ τ a σ) H))) (QWi Q (fun u H => va_P D classes (wMo κ τ a u) H) (cA a 13)) 0 0 (cA a 13) := by
  refine Met_of l (own := RX5) (by decide) rfl (Nat.le_of_ble_eq_true rfl) (fun p e s m below meth c Cc hPP ls hl => ?_)
  obtain ⟨hx, hb, hml, hown, hts, hr, hlk, hE⟩ := id Cc
  have hl : lv_has ls 8 [(0, .ref (a 0)), (1, .int x1), (2, .int x2)] := hl
  have hPt := hPP
  have hS : va_S (cA a 13) s.heap s.heap [] := va_S.rf
  unfold pX5_cheapest at h
  refine lv_aload_n hx hb dX5_cheapest_0 rfl (lv_at hl 0 rfl) ?_
  refine gMo_0 Cc hPt (tw_761 hts) dX5_cheapest_1 ?_
  refine lv_iload_n hx hb dX5_cheapest_4 rfl (lv_at hl 1 rfl) ?_
  refine lMo_0 Cc hPt h.1 dX5_cheapest_5 ?_
  have h := h.2
  refine lv_topi (fun v6 e6 => ?_)
  have h := h v6 e6
  refine lv_istore_n (lv' := [(3, .int v6), (0, .ref (a 0)), (1, .int x1), (2, .int x2)]) hx hb dX5_cheapest_6 rfl hl (by decide) rfl (fun ls hl => ?_)
  refine lv_iconst (v := 0) hx hb dX5_cheapest_7 (by decide) ?_
  refine lv_istore (lv' := [(4, .int 0), (3, .int v6), (0, .ref (a 0)), (1, .int x1), (2, .int x2)]) hx hb dX5_cheapest_8 hl (by decide) rfl (fun ls hl => ?_)
  refine lv_ldc (own := RX5) (v := 1000000) hx hb hown (tw_997 hts) dX5_cheapest_10 ?_
  refine lv_istore (lv' := [(5, .int 1000000), (4, .int 0), (3, .int v6), (0, .ref (a 0)), (1, .int x1), (2, .int x2)]) hx hb dX5_cheapest_12 hl (by decide) rfl (fun ls hl => ?_)
  refine lv_iconst (v := 0) hx hb dX5_cheapest_14 (by decide) ?_
  refine lv_istore (lv' := [(6, .int 0), (5, .int 1000000), (4, .int 0), (3, .int v6), (0, .ref (a 0)), (1, .int x1), (2, .int x2)]) hx hb dX5_cheapest_15 hl (by decide) rfl (fun ls hl => ?_)
  obtain ⟨n, h⟩ := h
  exact bX5_cheapest_17 Cc hIt n x1 x2 v6 0 1000000 0 σ _ _ hPt hS _ (lv_sub hl [4, 5, 6, 3, 2, 1, 0] rfl) h
theorem qX5_cheapest {R : Room} {s : State} {args : Array Value} {own : String} {idx : Nat} (hts : ∀ w ∈ gG, w.before args s = true) (hl : (Cond.methodLink own idx yX5_cheapest).before args s = true) (hR : rX5_cheapest.frames + 1 ≤ R.frames ∧ 8 + (8 + 11) + rX5_cheapest.locals ≤ R.locals) : CallW R s args own RX5 idx yX5_cheapest cX5_cheapest 8 (some .int) (wz yX5_cheapest cX5_cheapest 8 (some .int)) rX5_cheapest 0 0 2 := ⟨kw 2 hts mw_1061 rfl rfl (tw_75 hts) hl (by decide +kernel) hR, tw_1060 hts, tw_53 hts⟩
abbrev rX5_edgeFor : Room := { frames := 8, cells := 0, slots := 0, locals := 185 }
def pX5_edgeFor_28 (Q : Int32 → Mx → Prop) (y0 : Int32) (σ : Mx) : Prop := Q y0 σ
def pX5_edgeFor (σ : Mx) (x1 : Int32) (Q : Int32 → Mx → Prop) : Prop := pX5_isPiece σ x1 (fun r2 => ((r2 = 0 → (pX5_finding σ (-1000001) (fun r25 u25 => (pX5_edgeFor_28 Q r25 u25)))) ∧ (¬ r2 = 0 → (pX5_pieceAt x1 1 (fun r11 => (pX5_cheapest σ r11 10 (fun r16 u16 => (pX5_edgeFor_28 Q r16 u16))))))))
set_option maxHeartbeats 4000000 in
set_option maxRecDepth 100000 in
theorem bX5_edgeFor_28 {p : Program} {l : Launch} {e : Env} {s : State} {m : MethodId} {args : Array Value} {below : List Frame} {meth : Method} {c : Code} {D : va_G} {κ : Nat → ClassId} {τ : Nat → Nat} {a : Nat → Nat}   {Q : Int32 → Mx → Prop} (Cc : Cx D κ RX5 cX5_edgeFor 2 (some .int) p s m args meth c) (hIt : Ij a 13)   : ∀ (y0 : Int32) (σ : Mx) (H : Heap) (locs : List Loc) (hPt : va_P D classes (wMo κ τ a σ) H) (hS : va_S (cA a 13) s.heap H locs) (ls : Array Slot) (hl : lv_has ls 2 []) (h : pX5_edgeFor_28 Q y0 σ), W p l e rX5_edgeFor s m args below meth c H locs 0 0 (MQ below (QWi Q (fun u H => va_P D classes (wMo κ τ a u) H) (cA a 13)) args s 0 0 (cA a 13)) (F0 m 28 ls [.int y0]) := by
  obtain ⟨hx, hb, hml, hown, hts, hr, hlk, hE⟩ := id Cc
  intro y0 σ H locs hPt hS ls hl h
  unfold pX5_edgeFor_28 at h
  exact W.iret (v := y0) hx hb hr (fun t ht _ => QWi.mk (u := σ) h hPt hS ht) hS.2.2 dX5_edgeFor_28 (hlocks := hlk)
set_option maxHeartbeats 4000000 in
set_option maxRecDepth 100000 in
theorem mX5_edgeFor (l : Launch) (D : va_G) (κ : Nat → ClassId) (τ : Nat → Nat) (a : Nat → Nat) {σ : Mx} {x1 : Int32} {Q : Int32 → Mx → Prop} (hIt : Ij a 13) (h : pX5_edgeFor σ x1 Q) : Met l yX5_edgeFor (wz yX5_edgeFor cX5_edgeFor 2 (some .int)) rX5_edgeFor (va_Pc [.ref (a 0), .int x1] (PE D κ (fun H => va_P D classes (wMo κ τ a σ) H))) (QWi Q (fun u H => va_P D classes (wMo κ τ a u) H) (cA a 13)) 0 0 (cA a 13) := by
  refine Met_of l (own := RX5) (by decide) rfl (Nat.le_of_ble_eq_true rfl) (fun p e s m below meth c Cc hPP ls hl => ?_)
  obtain ⟨hx, hb, hml, hown, hts, hr, hlk, hE⟩ := id Cc
  have hl : lv_has ls 2 [(0, .ref (a 0)), (1, .int x1)] := hl
  have hPt := hPP
  have hS : va_S (cA a 13) s.heap s.heap [] := va_S.rf
  unfold pX5_edgeFor at h
  refine lv_aload_n hx hb dX5_edgeFor_0 rfl (lv_at hl 0 rfl) ?_
  refine lv_iload_n hx hb dX5_edgeFor_1 rfl (lv_at hl 1 rfl) ?_
  refine kR (kV Cc (mX5_isPiece l D κ τ a h) (qX5_isPiece hts (tw_873 hts) ⟨(Nat.le_of_ble_eq_true rfl), (Nat.le_of_ble_eq_true rfl)⟩) (va_recv hE.1 hPt (ci := 5) (q0 := 0) rfl rfl) (rest := []) hPt rfl hl.1 rfl (Nat.le_of_ble_eq_true rfl) dX5_edgeFor_2 ⟨Nat.zero_le _, Nat.zero_le _⟩) (fun r2 h => ?_)
  refine lv_if_eq (tgt := 22) hx hb dX5_edgeFor_5 (by decide) (fun c5 => ?_) (fun c5 => ?_)
  · have h := h.1 c5
    refine lv_aload_n hx hb dX5_edgeFor_22 rfl (lv_at hl 0 rfl) ?_
    refine lv_ldc (own := RX5) (v := (-1000001)) hx hb hown (tw_842 hts) dX5_edgeFor_23 ?_
    refine kWi (kV Cc (mX5_finding l D κ τ a hIt h) (qX5_finding hts (tw_843 hts) ⟨(Nat.le_of_ble_eq_true rfl), (Nat.le_of_ble_eq_true rfl)⟩) (va_recv hE.1 hPt (ci := 5) (q0 := 0) rfl rfl) (rest := []) hPt rfl hl.1 rfl (Nat.le_of_ble_eq_true rfl) dX5_edgeFor_25 ⟨Nat.zero_le _, Nat.zero_le _⟩) hS (fun q h9 => h9) (fun r25 u25 H1 locs1 h hB hk hS1 => ?_)
    have hPt := hB
    have hS := hS1
    exact bX5_edgeFor_28 Cc hIt r25 u25 _ _ hPt hS _ (lv_sub hl [] rfl) h
  · have h := h.2 c5
    refine lv_aload_n hx hb dX5_edgeFor_8 rfl (lv_at hl 0 rfl) ?_
    refine lv_iload_n hx hb dX5_edgeFor_9 rfl (lv_at hl 1 rfl) ?_
    refine lv_iconst (v := 1) hx hb dX5_edgeFor_10 (by decide) ?_
    refine kR (kS Cc (mX5_pieceAt l D κ h) (qX5_pieceAt hts (tw_866 hts) ⟨(Nat.le_of_ble_eq_true rfl), (Nat.le_of_ble_eq_true rfl)⟩) (rest := [.ref (a 0)]) trivial rfl hl.1 rfl (Nat.le_of_ble_eq_true rfl) dX5_edgeFor_11 ⟨Nat.zero_le _, Nat.zero_le _⟩) (fun r11 h => ?_)
    refine lv_bipush (v := 10) hx hb dX5_edgeFor_14 (by decide) ?_
    refine kWi (kV Cc (mX5_cheapest l D κ τ a hIt h) (qX5_cheapest hts (tw_1058 hts) ⟨(Nat.le_of_ble_eq_true rfl), (Nat.le_of_ble_eq_true rfl)⟩) (va_recv hE.1 hPt (ci := 5) (q0 := 0) rfl rfl) (rest := []) hPt rfl hl.1 rfl (Nat.le_of_ble_eq_true rfl) dX5_edgeFor_16 ⟨Nat.zero_le _, Nat.zero_le _⟩) hS (fun q h9 => h9) (fun r16 u16 H1 locs1 h hB hk hS1 => ?_)
    have hPt := hB
    have hS := hS1
    refine lv_goto (tgt := 28) hx hb dX5_edgeFor_19 (by decide) ?_
    exact bX5_edgeFor_28 Cc hIt r16 u16 _ _ hPt hS _ (lv_sub hl [] rfl) h
theorem qX5_edgeFor {R : Room} {s : State} {args : Array Value} {own : String} {idx : Nat} (hts : ∀ w ∈ gG, w.before args s = true) (hl : (Cond.methodLink own idx yX5_edgeFor).before args s = true) (hR : rX5_edgeFor.frames + 1 ≤ R.frames ∧ 8 + (2 + 11) + rX5_edgeFor.locals ≤ R.locals) : CallW R s args own RX5 idx yX5_edgeFor cX5_edgeFor 2 (some .int) (wz yX5_edgeFor cX5_edgeFor 2 (some .int)) rX5_edgeFor 0 0 1 := ⟨kw 1 hts mw_1057 rfl rfl (tw_75 hts) hl (by decide +kernel) hR, tw_1055 hts, tw_1056 hts⟩
abbrev rX5_kindFor : Room := { frames := 8, cells := 0, slots := 0, locals := 185 }
def pX5_kindFor_28 (Q : Int32 → Mx → Prop) (y0 : Int32) (σ : Mx) : Prop := Q y0 σ
def pX5_kindFor (σ : Mx) (x1 : Int32) (Q : Int32 → Mx → Prop) : Prop := pX5_isPiece σ x1 (fun r2 => ((r2 = 0 → (pX5_finding σ (-1000001) (fun r25 u25 => (pX5_kindFor_28 Q r25 u25)))) ∧ (¬ r2 = 0 → (pX5_pieceAt x1 0 (fun r11 => (pX5_cheapest σ r11 7 (fun r16 u16 => (pX5_kindFor_28 Q r16 u16))))))))
set_option maxHeartbeats 4000000 in
set_option maxRecDepth 100000 in
theorem bX5_kindFor_28 {p : Program} {l : Launch} {e : Env} {s : State} {m : MethodId} {args : Array Value} {below : List Frame} {meth : Method} {c : Code} {D : va_G} {κ : Nat → ClassId} {τ : Nat → Nat} {a : Nat → Nat}   {Q : Int32 → Mx → Prop} (Cc : Cx D κ RX5 cX5_kindFor 2 (some .int) p s m args meth c) (hIt : Ij a 13)   : ∀ (y0 : Int32) (σ : Mx) (H : Heap) (locs : List Loc) (hPt : va_P D classes (wMo κ τ a σ) H) (hS : va_S (cA a 13) s.heap H locs) (ls : Array Slot) (hl : lv_has ls 2 []) (h : pX5_kindFor_28 Q y0 σ), W p l e rX5_kindFor s m args below meth c H locs 0 0 (MQ below (QWi Q (fun u H => va_P D classes (wMo κ τ a u) H) (cA a 13)) args s 0 0 (cA a 13)) (F0 m 28 ls [.int y0]) := by
  obtain ⟨hx, hb, hml, hown, hts, hr, hlk, hE⟩ := id Cc
  intro y0 σ H locs hPt hS ls hl h
  unfold pX5_kindFor_28 at h
  exact W.iret (v := y0) hx hb hr (fun t ht _ => QWi.mk (u := σ) h hPt hS ht) hS.2.2 dX5_kindFor_28 (hlocks := hlk)
set_option maxHeartbeats 4000000 in
set_option maxRecDepth 100000 in
theorem mX5_kindFor (l : Launch) (D : va_G) (κ : Nat → ClassId) (τ : Nat → Nat) (a : Nat → Nat) {σ : Mx} {x1 : Int32} {Q : Int32 → Mx → Prop} (hIt : Ij a 13) (h : pX5_kindFor σ x1 Q) : Met l yX5_kindFor (wz yX5_kindFor cX5_kindFor 2 (some .int)) rX5_kindFor (va_Pc [.ref (a 0), .int x1] (PE D κ (fun H => va_P D classes (wMo κ τ a σ) H))) (QWi Q (fun u H => va_P D classes (wMo κ τ a u) H) (cA a 13)) 0 0 (cA a 13) := by
  refine Met_of l (own := RX5) (by decide) rfl (Nat.le_of_ble_eq_true rfl) (fun p e s m below meth c Cc hPP ls hl => ?_)
  obtain ⟨hx, hb, hml, hown, hts, hr, hlk, hE⟩ := id Cc
  have hl : lv_has ls 2 [(0, .ref (a 0)), (1, .int x1)] := hl
  have hPt := hPP
  have hS : va_S (cA a 13) s.heap s.heap [] := va_S.rf
  unfold pX5_kindFor at h
  refine lv_aload_n hx hb dX5_kindFor_0 rfl (lv_at hl 0 rfl) ?_
  refine lv_iload_n hx hb dX5_kindFor_1 rfl (lv_at hl 1 rfl) ?_
  refine kR (kV Cc (mX5_isPiece l D κ τ a h) (qX5_isPiece hts (tw_873 hts) ⟨(Nat.le_of_ble_eq_true rfl), (Nat.le_of_ble_eq_true rfl)⟩) (va_recv hE.1 hPt (ci := 5) (q0 := 0) rfl rfl) (rest := []) hPt rfl hl.1 rfl (Nat.le_of_ble_eq_true rfl) dX5_kindFor_2 ⟨Nat.zero_le _, Nat.zero_le _⟩) (fun r2 h => ?_)
  refine lv_if_eq (tgt := 22) hx hb dX5_kindFor_5 (by decide) (fun c5 => ?_) (fun c5 => ?_)
  · have h := h.1 c5
    refine lv_aload_n hx hb dX5_kindFor_22 rfl (lv_at hl 0 rfl) ?_
    refine lv_ldc (own := RX5) (v := (-1000001)) hx hb hown (tw_842 hts) dX5_kindFor_23 ?_
    refine kWi (kV Cc (mX5_finding l D κ τ a hIt h) (qX5_finding hts (tw_843 hts) ⟨(Nat.le_of_ble_eq_true rfl), (Nat.le_of_ble_eq_true rfl)⟩) (va_recv hE.1 hPt (ci := 5) (q0 := 0) rfl rfl) (rest := []) hPt rfl hl.1 rfl (Nat.le_of_ble_eq_true rfl) dX5_kindFor_25 ⟨Nat.zero_le _, Nat.zero_le _⟩) hS (fun q h9 => h9) (fun r25 u25 H1 locs1 h hB hk hS1 => ?_)
    have hPt := hB
    have hS := hS1
    exact bX5_kindFor_28 Cc hIt r25 u25 _ _ hPt hS _ (lv_sub hl [] rfl) h
  · have h := h.2 c5
    refine lv_aload_n hx hb dX5_kindFor_8 rfl (lv_at hl 0 rfl) ?_
    refine lv_iload_n hx hb dX5_kindFor_9 rfl (lv_at hl 1 rfl) ?_
    refine lv_iconst (v := 0) hx hb dX5_kindFor_10 (by decide) ?_
    refine kR (kS Cc (mX5_pieceAt l D κ h) (qX5_pieceAt hts (tw_866 hts) ⟨(Nat.le_of_ble_eq_true rfl), (Nat.le_of_ble_eq_true rfl)⟩) (rest := [.ref (a 0)]) trivial rfl hl.1 rfl (Nat.le_of_ble_eq_true rfl) dX5_kindFor_11 ⟨Nat.zero_le _, Nat.zero_le _⟩) (fun r11 h => ?_)
    refine lv_bipush (v := 7) hx hb dX5_kindFor_14 (by decide) ?_
    refine kWi (kV Cc (mX5_cheapest l D κ τ a hIt h) (qX5_cheapest hts (tw_1058 hts) ⟨(Nat.le_of_ble_eq_true rfl), (Nat.le_of_ble_eq_true rfl)⟩) (va_recv hE.1 hPt (ci := 5) (q0 := 0) rfl rfl) (rest := []) hPt rfl hl.1 rfl (Nat.le_of_ble_eq_true rfl) dX5_kindFor_16 ⟨Nat.zero_le _, Nat.zero_le _⟩) hS (fun q h9 => h9) (fun r16 u16 H1 locs1 h hB hk hS1 => ?_)
    have hPt := hB
    have hS := hS1
    refine lv_goto (tgt := 28) hx hb dX5_kindFor_19 (by decide) ?_
    exact bX5_kindFor_28 Cc hIt r16 u16 _ _ hPt hS _ (lv_sub hl [] rfl) h
theorem qX5_kindFor {R : Room} {s : State} {args : Array Value} {own : String} {idx : Nat} (hts : ∀ w ∈ gG, w.before args s = true) (hl : (Cond.methodLink own idx yX5_kindFor).before args s = true) (hR : rX5_kindFor.frames + 1 ≤ R.frames ∧ 8 + (2 + 11) + rX5_kindFor.locals ≤ R.locals) : CallW R s args own RX5 idx yX5_kindFor cX5_kindFor 2 (some .int) (wz yX5_kindFor cX5_kindFor 2 (some .int)) rX5_kindFor 0 0 1 := ⟨kw 1 hts mw_1065 rfl rfl (tw_75 hts) hl (by decide +kernel) hR, tw_1063 hts, tw_1064 hts⟩
abbrev rX5_sumTurned : Room := { frames := 5, cells := 0, slots := 0, locals := 113 }
def pX5_sumTurned_43s  (ih43 : Int32 → Int32 → Int32 → Mx → Prop) (Q : Int32 → Mx → Prop) (x1 : Int32) (x2 : Int32) (x3 : Int32) (σ : Mx) : Prop := vp_in 1 67 ∧ (((σ 0 (1 : Int32).toNatClampNeg) ≤ x3 → (Q x2 σ)) ∧ (¬ (σ 0 (1 : Int32).toNatClampNeg) ≤ x3 → (pX5_pieceAt x3 4 (fun r59 => (vp_in r59 67 ∧ (vp_in r59 67 ∧ (ih43 x1 x2 (x3 + 1) (st σ 0 r59.toNatClampNeg ((σ 0 r59.toNatClampNeg) ^^^ ((x1 >>> (x3 &&& 31)) &&& 1))))))))))
noncomputable def pX5_sumTurned_43 (Q : Int32 → Mx → Prop) (n : Nat) : Int32 → Int32 → Int32 → Mx → Prop := Nat.rec (motive := fun _ => Int32 → Int32 → Int32 → Mx → Prop) (fun _ _ _ _ => False) (fun _ ih => pX5_sumTurned_43s ih Q) n
def pX5_sumTurned_2s  (ih2 : Int32 → Int32 → Mx → Prop) (Q : Int32 → Mx → Prop) (x1 : Int32) (x2 : Int32) (σ : Mx) : Prop := vp_in 1 67 ∧ (((σ 0 (1 : Int32).toNatClampNeg) ≤ x2 → (pX5_sumNow σ (fun r37 => (∃ n, pX5_sumTurned_43 Q n x1 r37 0 σ)))) ∧ (¬ (σ 0 (1 : Int32).toNatClampNeg) ≤ x2 → (pX5_pieceAt x2 4 (fun r18 => (vp_in r18 67 ∧ (vp_in r18 67 ∧ (ih2 x1 (x2 + 1) (st σ 0 r18.toNatClampNeg ((σ 0 r18.toNatClampNeg) ^^^ ((x1 >>> (x2 &&& 31)) &&& 1))))))))))
noncomputable def pX5_sumTurned_2 (Q : Int32 → Mx → Prop) (n : Nat) : Int32 → Int32 → Mx → Prop := Nat.rec (motive := fun _ => Int32 → Int32 → Mx → Prop) (fun _ _ _ => False) (fun _ ih => pX5_sumTurned_2s ih Q) n
def pX5_sumTurned (σ : Mx) (x1 : Int32) (Q : Int32 → Mx → Prop) : Prop := ∃ n, pX5_sumTurned_2 Q n x1 0 σ
set_option maxHeartbeats 4000000 in
set_option maxRecDepth 100000 in
theorem bX5_sumTurned_43 {p : Program} {l : Launch} {e : Env} {s : State} {m : MethodId} {args : Array Value} {below : List Frame} {meth : Method} {c : Code} {D : va_G} {κ : Nat → ClassId} {τ : Nat → Nat} {a : Nat → Nat}   {Q : Int32 → Mx → Prop} (Cc : Cx D κ RX5 cX5_sumTurned 4 (some .int) p s m args meth c) (hIt : Ij a 13)   (n : Nat) : ∀ (x1 : Int32) (x2 : Int32) (x3 : Int32) (σ : Mx) (H : Heap) (locs : List Loc) (hPt : va_P D classes (wMo κ τ a σ) H) (hS : va_S (cA a 13) s.heap H locs) (ls : Array Slot) (hl : lv_has ls 4 [(0, .ref (a 0)), (1, .int x1), (2, .int x2), (3, .int x3)]) (h : pX5_sumTurned_43 Q n x1 x2 x3 σ), W p l e rX5_sumTurned s m args below meth c H locs 0 0 (MQ below (QWi Q (fun u H => va_P D classes (wMo κ τ a u) H) (cA a 13)) args s 0 0 (cA a 13)) (F0 m 43 ls []) := by
  obtain ⟨hx, hb, hml, hown, hts, hr, hlk, hE⟩ := id Cc
  induction n with
  | zero =>
    intro x1 x2 x3 σ H locs hPt hS ls hl h
    exact absurd h (fun z => z)
  | succ n hih43 =>
    intro x1 x2 x3 σ H locs hPt hS ls hl h
    have h : pX5_sumTurned_43s (pX5_sumTurned_43 Q n) Q x1 x2 x3 σ := h
    unfold pX5_sumTurned_43s at h
    refine lv_iload_n hx hb dX5_sumTurned_43 rfl (lv_at hl 3 rfl) ?_
    refine lv_aload_n hx hb dX5_sumTurned_44 rfl (lv_at hl 0 rfl) ?_
    refine gMo_0 Cc hPt (tw_761 hts) dX5_sumTurned_45 ?_
    refine lv_iconst (v := 1) hx hb dX5_sumTurned_48 (by decide) ?_
    refine lMo_0 Cc hPt h.1 dX5_sumTurned_49 ?_
    have h := h.2
    refine lv_icmp_ge (tgt := 77) hx hb dX5_sumTurned_50 (by decide) (fun c50 => ?_) (fun c50 => ?_)
    · have h := h.1 c50
      refine lv_iload_n hx hb dX5_sumTurned_77 rfl (lv_at hl 2 rfl) ?_
      exact W.iret (v := x2) hx hb hr (fun t ht _ => QWi.mk (u := σ) h hPt hS ht) hS.2.2 dX5_sumTurned_78 (hlocks := hlk)
    · have h := h.2 c50
      refine lv_aload_n hx hb dX5_sumTurned_53 rfl (lv_at hl 0 rfl) ?_
      refine gMo_0 Cc hPt (tw_761 hts) dX5_sumTurned_54 ?_
      refine lv_iload_n hx hb dX5_sumTurned_57 rfl (lv_at hl 3 rfl) ?_
      refine lv_iconst (v := 4) hx hb dX5_sumTurned_58 (by decide) ?_
      refine kR (kS Cc (mX5_pieceAt l D κ h) (qX5_pieceAt hts (tw_866 hts) ⟨(Nat.le_of_ble_eq_true rfl), (Nat.le_of_ble_eq_true rfl)⟩) (rest := [.ref (a 1)]) trivial rfl hl.1 rfl (Nat.le_of_ble_eq_true rfl) dX5_sumTurned_59 ⟨Nat.zero_le _, Nat.zero_le _⟩) (fun r59 h => ?_)
      refine lv_dup2_11 hx hb dX5_sumTurned_62 rfl rfl ?_
      refine lMo_0 Cc hPt h.1 dX5_sumTurned_63 ?_
      have h := h.2
      refine lv_iload_n hx hb dX5_sumTurned_64 rfl (lv_at hl 1 rfl) ?_
      refine lv_iload_n hx hb dX5_sumTurned_65 rfl (lv_at hl 3 rfl) ?_
      refine lv_ishr hx hb dX5_sumTurned_66 ?_
      refine lv_iconst (v := 1) hx hb dX5_sumTurned_67 (by decide) ?_
      refine lv_iand hx hb dX5_sumTurned_68 ?_
      refine lv_ixor hx hb dX5_sumTurned_69 ?_
      refine sMo_0 Cc hPt hIt hS ⟨1, by decide, rfl⟩ h.1 dX5_sumTurned_70 (fun H1 locs1 hB hS1 hk => ?_)
      have h := h.2
      have hPt := hB
      have hS := hS1
      refine lv_iinc (v := (x3 + 1)) (lv' := [(3, .int (x3 + 1)), (0, .ref (a 0)), (1, .int x1), (2, .int x2)]) hx hb dX5_sumTurned_71 hl (k := 3) rfl rfl (by decide) rfl (fun ls hl => ?_)
      refine lv_goto (tgt := 43) hx hb dX5_sumTurned_74 (by decide) ?_
      exact hih43 x1 x2 (x3 + 1) (st σ 0 r59.toNatClampNeg ((σ 0 r59.toNatClampNeg) ^^^ ((x1 >>> (x3 &&& 31)) &&& 1))) _ _ hPt hS _ (lv_sub hl [1, 2, 3, 0] rfl) h
set_option maxHeartbeats 4000000 in
set_option maxRecDepth 100000 in
theorem bX5_sumTurned_2 {p : Program} {l : Launch} {e : Env} {s : State} {m : MethodId} {args : Array Value} {below : List Frame} {meth : Method} {c : Code} {D : va_G} {κ : Nat → ClassId} {τ : Nat → Nat} {a : Nat → Nat}   {Q : Int32 → Mx → Prop} (Cc : Cx D κ RX5 cX5_sumTurned 4 (some .int) p s m args meth c) (hIt : Ij a 13)   (n : Nat) : ∀ (x1 : Int32) (x2 : Int32) (σ : Mx) (H : Heap) (locs : List Loc) (hPt : va_P D classes (wMo κ τ a σ) H) (hS : va_S (cA a 13) s.heap H locs) (ls : Array Slot) (hl : lv_has ls 4 [(0, .ref (a 0)), (1, .int x1), (2, .int x2)]) (h : pX5_sumTurned_2 Q n x1 x2 σ), W p l e rX5_sumTurned s m args below meth c H locs 0 0 (MQ below (QWi Q (fun u H => va_P D classes (wMo κ τ a u) H) (cA a 13)) args s 0 0 (cA a 13)) (F0 m 2 ls []) := by
  obtain ⟨hx, hb, hml, hown, hts, hr, hlk, hE⟩ := id Cc
  induction n with
  | zero =>
    intro x1 x2 σ H locs hPt hS ls hl h
    exact absurd h (fun z => z)
  | succ n hih2 =>
    intro x1 x2 σ H locs hPt hS ls hl h
    have h : pX5_sumTurned_2s (pX5_sumTurned_2 Q n) Q x1 x2 σ := h
    unfold pX5_sumTurned_2s at h
    refine lv_iload_n hx hb dX5_sumTurned_2 rfl (lv_at hl 2 rfl) ?_
    refine lv_aload_n hx hb dX5_sumTurned_3 rfl (lv_at hl 0 rfl) ?_
    refine gMo_0 Cc hPt (tw_761 hts) dX5_sumTurned_4 ?_
    refine lv_iconst (v := 1) hx hb dX5_sumTurned_7 (by decide) ?_
    refine lMo_0 Cc hPt h.1 dX5_sumTurned_8 ?_
    have h := h.2
    refine lv_icmp_ge (tgt := 36) hx hb dX5_sumTurned_9 (by decide) (fun c9 => ?_) (fun c9 => ?_)
    · have h := h.1 c9
      refine lv_aload_n hx hb dX5_sumTurned_36 rfl (lv_at hl 0 rfl) ?_
      refine kR (kV Cc (mX5_sumNow l D κ τ a h) (qX5_sumNow hts (tw_937 hts) ⟨(Nat.le_of_ble_eq_true rfl), (Nat.le_of_ble_eq_true rfl)⟩) (va_recv hE.1 hPt (ci := 5) (q0 := 0) rfl rfl) (rest := []) hPt rfl hl.1 rfl (Nat.le_of_ble_eq_true rfl) dX5_sumTurned_37 ⟨Nat.zero_le _, Nat.zero_le _⟩) (fun r37 h => ?_)
      refine lv_istore_n (lv' := [(2, .int r37), (0, .ref (a 0)), (1, .int x1)]) hx hb dX5_sumTurned_40 rfl hl (by decide) rfl (fun ls hl => ?_)
      refine lv_iconst (v := 0) hx hb dX5_sumTurned_41 (by decide) ?_
      refine lv_istore_n (lv' := [(3, .int 0), (2, .int r37), (0, .ref (a 0)), (1, .int x1)]) hx hb dX5_sumTurned_42 rfl hl (by decide) rfl (fun ls hl => ?_)
      obtain ⟨n, h⟩ := h
      exact bX5_sumTurned_43 Cc hIt n x1 r37 0 σ _ _ hPt hS _ (lv_sub hl [2, 3, 1, 0] rfl) h
    · have h := h.2 c9
      refine lv_aload_n hx hb dX5_sumTurned_12 rfl (lv_at hl 0 rfl) ?_
      refine gMo_0 Cc hPt (tw_761 hts) dX5_sumTurned_13 ?_
      refine lv_iload_n hx hb dX5_sumTurned_16 rfl (lv_at hl 2 rfl) ?_
      refine lv_iconst (v := 4) hx hb dX5_sumTurned_17 (by decide) ?_
      refine kR (kS Cc (mX5_pieceAt l D κ h) (qX5_pieceAt hts (tw_866 hts) ⟨(Nat.le_of_ble_eq_true rfl), (Nat.le_of_ble_eq_true rfl)⟩) (rest := [.ref (a 1)]) trivial rfl hl.1 rfl (Nat.le_of_ble_eq_true rfl) dX5_sumTurned_18 ⟨Nat.zero_le _, Nat.zero_le _⟩) (fun r18 h => ?_)
      refine lv_dup2_11 hx hb dX5_sumTurned_21 rfl rfl ?_
      refine lMo_0 Cc hPt h.1 dX5_sumTurned_22 ?_
      have h := h.2
      refine lv_iload_n hx hb dX5_sumTurned_23 rfl (lv_at hl 1 rfl) ?_
      refine lv_iload_n hx hb dX5_sumTurned_24 rfl (lv_at hl 2 rfl) ?_
      refine lv_ishr hx hb dX5_sumTurned_25 ?_
      refine lv_iconst (v := 1) hx hb dX5_sumTurned_26 (by decide) ?_
      refine lv_iand hx hb dX5_sumTurned_27 ?_
      refine lv_ixor hx hb dX5_sumTurned_28 ?_
      refine sMo_0 Cc hPt hIt hS ⟨1, by decide, rfl⟩ h.1 dX5_sumTurned_29 (fun H1 locs1 hB hS1 hk => ?_)
      have h := h.2
      have hPt := hB
      have hS := hS1
      refine lv_iinc (v := (x2 + 1)) (lv' := [(2, .int (x2 + 1)), (0, .ref (a 0)), (1, .int x1)]) hx hb dX5_sumTurned_30 hl (k := 2) rfl rfl (by decide) rfl (fun ls hl => ?_)
      refine lv_goto (tgt := 2) hx hb dX5_sumTurned_33 (by decide) ?_
      exact hih2 x1 (x2 + 1) (st σ 0 r18.toNatClampNeg ((σ 0 r18.toNatClampNeg) ^^^ ((x1 >>> (x2 &&& 31)) &&& 1))) _ _ hPt hS _ (lv_sub hl [1, 2, 0] rfl) h
set_option maxHeartbeats 4000000 in
set_option maxRecDepth 100000 in
theorem mX5_sumTurned (l : Launch) (D : va_G) (κ : Nat → ClassId) (τ : Nat → Nat) (a : Nat → Nat) {σ : Mx} {x1 : Int32} {Q : Int32 → Mx → Prop} (hIt : Ij a 13) (h : pX5_sumTurned σ x1 Q) : Met l yX5_sumTurned (wz yX5_sumTurned cX5_sumTurned 4 (some .int)) rX5_sumTurned (va_Pc [.ref (a 0), .int x1] (PE D κ (fun H => va_P D classes (wMo κ τ a σ) H))) (QWi Q (fun u H => va_P D classes (wMo κ τ a u) H) (cA a 13)) 0 0 (cA a 13) := by
  refine Met_of l (own := RX5) (by decide) rfl (Nat.le_of_ble_eq_true rfl) (fun p e s m below meth c Cc hPP ls hl => ?_)
  obtain ⟨hx, hb, hml, hown, hts, hr, hlk, hE⟩ := id Cc
  have hl : lv_has ls 4 [(0, .ref (a 0)), (1, .int x1)] := hl
  have hPt := hPP
  have hS : va_S (cA a 13) s.heap s.heap [] := va_S.rf
  unfold pX5_sumTurned at h
  refine lv_iconst (v := 0) hx hb dX5_sumTurned_0 (by decide) ?_
  refine lv_istore_n (lv' := [(2, .int 0), (0, .ref (a 0)), (1, .int x1)]) hx hb dX5_sumTurned_1 rfl hl (by decide) rfl (fun ls hl => ?_)
  obtain ⟨n, h⟩ := h
  exact bX5_sumTurned_2 Cc hIt n x1 0 σ _ _ hPt hS _ (lv_sub hl [1, 2, 0] rfl) h
theorem qX5_sumTurned {R : Room} {s : State} {args : Array Value} {own : String} {idx : Nat} (hts : ∀ w ∈ gG, w.before args s = true) (hl : (Cond.methodLink own idx yX5_sumTurned).before args s = true) (hR : rX5_sumTurned.frames + 1 ≤ R.frames ∧ 8 + (4 + 11) + rX5_sumTurned.locals ≤ R.locals) : CallW R s args own RX5 idx yX5_sumTurned cX5_sumTurned 4 (some .int) (wz yX5_sumTurned cX5_sumTurned 4 (some .int)) rX5_sumTurned 0 0 1 := ⟨kw 1 hts mw_1076 rfl rfl (tw_75 hts) hl (by decide +kernel) hR, tw_1075 hts, tw_54 hts⟩
abbrev rX5_turn : Room := { frames := 6, cells := 0, slots := 0, locals := 136 }
def pX5_turn_58 (ih25 : Int32 → Int32 → Int32 → Mx → Prop) (Q : Int32 → Mx → Prop) (x1 : Int32) (x3 : Int32) (y0 : Int32) (σ : Mx) : Prop := ih25 x1 y0 (x3 + (-1)) σ
def pX5_turn_57 (ih25 : Int32 → Int32 → Int32 → Mx → Prop) (Q : Int32 → Mx → Prop) (x1 : Int32) (x2 : Int32) (x3 : Int32) (σ : Mx) : Prop := pX5_turn_58 ih25 Q x1 x3 x2 σ
def pX5_turn_44 (ih25 : Int32 → Int32 → Int32 → Mx → Prop) (Q : Int32 → Mx → Prop) (x1 : Int32) (x2 : Int32) (x3 : Int32) (σ : Mx) : Prop := pX5_sumTurned σ x3 (fun r46 u46 => ((x1 < r46 → (pX5_turn_57 ih25 Q x1 x2 x3 u46)) ∧ (¬ x1 < r46 → (pX5_turn_58 ih25 Q x1 x3 x3 u46))))
def pX5_turn_25s  (ih25 : Int32 → Int32 → Int32 → Mx → Prop) (Q : Int32 → Mx → Prop) (x1 : Int32) (x2 : Int32) (x3 : Int32) (σ : Mx) : Prop := (x3 < 0 → (pX5_orNone σ x2 (fun r67 u67 => (Q r67 u67)))) ∧ (¬ x3 < 0 → ((x2 < 0 → (pX5_turn_44 ih25 Q x1 x2 x3 σ)) ∧ (¬ x2 < 0 → (pX5_bits x3 (fun r34 => (pX5_bits x2 (fun r38 => ((r38 < r34 → (pX5_turn_57 ih25 Q x1 x2 x3 σ)) ∧ (¬ r38 < r34 → (pX5_turn_44 ih25 Q x1 x2 x3 σ))))))))))
noncomputable def pX5_turn_25 (Q : Int32 → Mx → Prop) (n : Nat) : Int32 → Int32 → Int32 → Mx → Prop := Nat.rec (motive := fun _ => Int32 → Int32 → Int32 → Mx → Prop) (fun _ _ _ _ => False) (fun _ ih => pX5_turn_25s ih Q) n
def pX5_turn (σ : Mx) (x1 : Int32) (Q : Int32 → Mx → Prop) : Prop := pX5_within x1 0 999 (fun r5 => ((¬ r5 = 0 → (pX5_everything σ (fun r21 => (∃ n, pX5_turn_25 Q n x1 (-1) r21 σ)))) ∧ (r5 = 0 → (pX5_finding σ (-1000001) (fun r14 u14 => (Q r14 u14))))))
set_option maxHeartbeats 4000000 in
set_option maxRecDepth 100000 in
theorem bX5_turn_58 {p : Program} {l : Launch} {e : Env} {s : State} {m : MethodId} {args : Array Value} {below : List Frame} {meth : Method} {c : Code} {D : va_G} {κ : Nat → ClassId} {τ : Nat → Nat} {a : Nat → Nat}  {ih25 : Int32 → Int32 → Int32 → Mx → Prop} {Q : Int32 → Mx → Prop} (Cc : Cx D κ RX5 cX5_turn 4 (some .int) p s m args meth c) (hIt : Ij a 13)  (hih25 : ∀ (x1 : Int32) (x2 : Int32) (x3 : Int32) (σ : Mx) (H : Heap) (locs : List Loc) (hPt : va_P D classes (wMo κ τ a σ) H) (hS : va_S (cA a 13) s.heap H locs) (ls : Array Slot) (hl : lv_has ls 4 [(0, .ref (a 0)), (1, .int x1), (2, .int x2), (3, .int x3)]) (h : ih25 x1 x2 x3 σ), W p l e rX5_turn s m args below meth c H locs 0 0 (MQ below (QWi Q (fun u H => va_P D classes (wMo κ τ a u) H) (cA a 13)) args s 0 0 (cA a 13)) (F0 m 25 ls [])) : ∀ (x1 : Int32) (x3 : Int32) (y0 : Int32) (σ : Mx) (H : Heap) (locs : List Loc) (hPt : va_P D classes (wMo κ τ a σ) H) (hS : va_S (cA a 13) s.heap H locs) (ls : Array Slot) (hl : lv_has ls 4 [(0, .ref (a 0)), (1, .int x1), (3, .int x3)]) (h : pX5_turn_58 ih25 Q x1 x3 y0 σ), W p l e rX5_turn s m args below meth c H locs 0 0 (MQ below (QWi Q (fun u H => va_P D classes (wMo κ τ a u) H) (cA a 13)) args s 0 0 (cA a 13)) (F0 m 58 ls [.int y0]) := by
  obtain ⟨hx, hb, hml, hown, hts, hr, hlk, hE⟩ := id Cc
  intro x1 x3 y0 σ H locs hPt hS ls hl h
  unfold pX5_turn_58 at h
  refine lv_istore_n (lv' := [(2, .int y0), (0, .ref (a 0)), (1, .int x1), (3, .int x3)]) hx hb dX5_turn_58 rfl hl (by decide) rfl (fun ls hl => ?_)
  refine lv_iinc (v := (x3 + (-1))) (lv' := [(3, .int (x3 + (-1))), (2, .int y0), (0, .ref (a 0)), (1, .int x1)]) hx hb dX5_turn_59 hl (k := 3) rfl rfl (by decide) rfl (fun ls hl => ?_)
  refine lv_goto (tgt := 25) hx hb dX5_turn_62 (by decide) ?_
  exact hih25 x1 y0 (x3 + (-1)) σ _ _ hPt hS _ (lv_sub hl [2, 3, 1, 0] rfl) h
set_option maxHeartbeats 4000000 in
set_option maxRecDepth 100000 in
theorem bX5_turn_57 {p : Program} {l : Launch} {e : Env} {s : State} {m : MethodId} {args : Array Value} {below : List Frame} {meth : Method} {c : Code} {D : va_G} {κ : Nat → ClassId} {τ : Nat → Nat} {a : Nat → Nat}  {ih25 : Int32 → Int32 → Int32 → Mx → Prop} {Q : Int32 → Mx → Prop} (Cc : Cx D κ RX5 cX5_turn 4 (some .int) p s m args meth c) (hIt : Ij a 13)  (hih25 : ∀ (x1 : Int32) (x2 : Int32) (x3 : Int32) (σ : Mx) (H : Heap) (locs : List Loc) (hPt : va_P D classes (wMo κ τ a σ) H) (hS : va_S (cA a 13) s.heap H locs) (ls : Array Slot) (hl : lv_has ls 4 [(0, .ref (a 0)), (1, .int x1), (2, .int x2), (3, .int x3)]) (h : ih25 x1 x2 x3 σ), W p l e rX5_turn s m args below meth c H locs 0 0 (MQ below (QWi Q (fun u H => va_P D classes (wMo κ τ a u) H) (cA a 13)) args s 0 0 (cA a 13)) (F0 m 25 ls [])) : ∀ (x1 : Int32) (x2 : Int32) (x3 : Int32) (σ : Mx) (H : Heap) (locs : List Loc) (hPt : va_P D classes (wMo κ τ a σ) H) (hS : va_S (cA a 13) s.heap H locs) (ls : Array Slot) (hl : lv_has ls 4 [(0, .ref (a 0)), (1, .int x1), (2, .int x2), (3, .int x3)]) (h : pX5_turn_57 ih25 Q x1 x2 x3 σ), W p l e rX5_turn s m args below meth c H locs 0 0 (MQ below (QWi Q (fun u H => va_P D classes (wMo κ τ a u) H) (cA a 13)) args s 0 0 (cA a 13)) (F0 m 57 ls []) := by
  obtain ⟨hx, hb, hml, hown, hts, hr, hlk, hE⟩ := id Cc
  intro x1 x2 x3 σ H locs hPt hS ls hl h
  unfold pX5_turn_57 at h
  refine lv_iload_n hx hb dX5_turn_57 rfl (lv_at hl 2 rfl) ?_
  exact bX5_turn_58 Cc hIt hih25 x1 x3 x2 σ _ _ hPt hS _ (lv_sub hl [0, 1, 3] rfl) h
set_option maxHeartbeats 4000000 in
set_option maxRecDepth 100000 in
theorem bX5_turn_44 {p : Program} {l : Launch} {e : Env} {s : State} {m : MethodId} {args : Array Value} {below : List Frame} {meth : Method} {c : Code} {D : va_G} {κ : Nat → ClassId} {τ : Nat → Nat} {a : Nat → Nat}  {ih25 : Int32 → Int32 → Int32 → Mx → Prop} {Q : Int32 → Mx → Prop} (Cc : Cx D κ RX5 cX5_turn 4 (some .int) p s m args meth c) (hIt : Ij a 13)  (hih25 : ∀ (x1 : Int32) (x2 : Int32) (x3 : Int32) (σ : Mx) (H : Heap) (locs : List Loc) (hPt : va_P D classes (wMo κ τ a σ) H) (hS : va_S (cA a 13) s.heap H locs) (ls : Array Slot) (hl : lv_has ls 4 [(0, .ref (a 0)), (1, .int x1), (2, .int x2), (3, .int x3)]) (h : ih25 x1 x2 x3 σ), W p l e rX5_turn s m args below meth c H locs 0 0 (MQ below (QWi Q (fun u H => va_P D classes (wMo κ τ a u) H) (cA a 13)) args s 0 0 (cA a 13)) (F0 m 25 ls [])) : ∀ (x1 : Int32) (x2 : Int32) (x3 : Int32) (σ : Mx) (H : Heap) (locs : List Loc) (hPt : va_P D classes (wMo κ τ a σ) H) (hS : va_S (cA a 13) s.heap H locs) (ls : Array Slot) (hl : lv_has ls 4 [(0, .ref (a 0)), (1, .int x1), (2, .int x2), (3, .int x3)]) (h : pX5_turn_44 ih25 Q x1 x2 x3 σ), W p l e rX5_turn s m args below meth c H locs 0 0 (MQ below (QWi Q (fun u H => va_P D classes (wMo κ τ a u) H) (cA a 13)) args s 0 0 (cA a 13)) (F0 m 44 ls []) := by
  obtain ⟨hx, hb, hml, hown, hts, hr, hlk, hE⟩ := id Cc
  intro x1 x2 x3 σ H locs hPt hS ls hl h
  unfold pX5_turn_44 at h
  refine lv_aload_n hx hb dX5_turn_44 rfl (lv_at hl 0 rfl) ?_
  refine lv_iload_n hx hb dX5_turn_45 rfl (lv_at hl 3 rfl) ?_
  refine kWi (kV Cc (mX5_sumTurned l D κ τ a hIt h) (qX5_sumTurned hts (tw_1073 hts) ⟨(Nat.le_of_ble_eq_true rfl), (Nat.le_of_ble_eq_true rfl)⟩) (va_recv hE.1 hPt (ci := 5) (q0 := 0) rfl rfl) (rest := []) hPt rfl hl.1 rfl (Nat.le_of_ble_eq_true rfl) dX5_turn_46 ⟨Nat.zero_le _, Nat.zero_le _⟩) hS (fun q h9 => h9) (fun r46 u46 H1 locs1 h hB hk hS1 => ?_)
  have hPt := hB
  have hS := hS1
  refine lv_iload_n hx hb dX5_turn_49 rfl (lv_at hl 1 rfl) ?_
  refine lv_icmp_gt (tgt := 57) hx hb dX5_turn_50 (by decide) (fun c50 => ?_) (fun c50 => ?_)
  · have h := h.1 c50
    exact bX5_turn_57 Cc hIt hih25 x1 x2 x3 u46 _ _ hPt hS _ (lv_sub hl [0, 1, 2, 3] rfl) h
  · have h := h.2 c50
    refine lv_iload_n hx hb dX5_turn_53 rfl (lv_at hl 3 rfl) ?_
    refine lv_goto (tgt := 58) hx hb dX5_turn_54 (by decide) ?_
    exact bX5_turn_58 Cc hIt hih25 x1 x3 x3 u46 _ _ hPt hS _ (lv_sub hl [0, 1, 3] rfl) h
set_option maxHeartbeats 4000000 in
set_option maxRecDepth 100000 in
theorem bX5_turn_25 {p : Program} {l : Launch} {e : Env} {s : State} {m : MethodId} {args : Array Value} {below : List Frame} {meth : Method} {c : Code} {D : va_G} {κ : Nat → ClassId} {τ : Nat → Nat} {a : Nat → Nat}   {Q : Int32 → Mx → Prop} (Cc : Cx D κ RX5 cX5_turn 4 (some .int) p s m args meth c) (hIt : Ij a 13)   (n : Nat) : ∀ (x1 : Int32) (x2 : Int32) (x3 : Int32) (σ : Mx) (H : Heap) (locs : List Loc) (hPt : va_P D classes (wMo κ τ a σ) H) (hS : va_S (cA a 13) s.heap H locs) (ls : Array Slot) (hl : lv_has ls 4 [(0, .ref (a 0)), (1, .int x1), (2, .int x2), (3, .int x3)]) (h : pX5_turn_25 Q n x1 x2 x3 σ), W p l e rX5_turn s m args below meth c H locs 0 0 (MQ below (QWi Q (fun u H => va_P D classes (wMo κ τ a u) H) (cA a 13)) args s 0 0 (cA a 13)) (F0 m 25 ls []) := by
  obtain ⟨hx, hb, hml, hown, hts, hr, hlk, hE⟩ := id Cc
  induction n with
  | zero =>
    intro x1 x2 x3 σ H locs hPt hS ls hl h
    exact absurd h (fun z => z)
  | succ n hih25 =>
    intro x1 x2 x3 σ H locs hPt hS ls hl h
    have h : pX5_turn_25s (pX5_turn_25 Q n) Q x1 x2 x3 σ := h
    unfold pX5_turn_25s at h
    refine lv_iload_n hx hb dX5_turn_25 rfl (lv_at hl 3 rfl) ?_
    refine lv_if_lt (tgt := 65) hx hb dX5_turn_26 (by decide) (fun c26 => ?_) (fun c26 => ?_)
    · have h := h.1 c26
      refine lv_aload_n hx hb dX5_turn_65 rfl (lv_at hl 0 rfl) ?_
      refine lv_iload_n hx hb dX5_turn_66 rfl (lv_at hl 2 rfl) ?_
      refine kWi (kV Cc (mX5_orNone l D κ τ a hIt h) (qX5_orNone hts (tw_1029 hts) ⟨(Nat.le_of_ble_eq_true rfl), (Nat.le_of_ble_eq_true rfl)⟩) (va_recv hE.1 hPt (ci := 5) (q0 := 0) rfl rfl) (rest := []) hPt rfl hl.1 rfl (Nat.le_of_ble_eq_true rfl) dX5_turn_67 ⟨Nat.zero_le _, Nat.zero_le _⟩) hS (fun q h9 => h9) (fun r67 u67 H1 locs1 h hB hk hS1 => ?_)
      have hPt := hB
      have hS := hS1
      exact W.iret (v := r67) hx hb hr (fun t ht _ => QWi.mk (u := u67) h hPt hS ht) hS.2.2 dX5_turn_70 (hlocks := hlk)
    · have h := h.2 c26
      refine lv_iload_n hx hb dX5_turn_29 rfl (lv_at hl 2 rfl) ?_
      refine lv_if_lt (tgt := 44) hx hb dX5_turn_30 (by decide) (fun c30 => ?_) (fun c30 => ?_)
      · have h := h.1 c30
        exact bX5_turn_44 Cc hIt hih25 x1 x2 x3 σ _ _ hPt hS _ (lv_sub hl [0, 1, 2, 3] rfl) h
      · have h := h.2 c30
        refine lv_iload_n hx hb dX5_turn_33 rfl (lv_at hl 3 rfl) ?_
        refine kR (kS Cc (mX5_bits l D κ h) (qX5_bits hts (tw_1070 hts) ⟨(Nat.le_of_ble_eq_true rfl), (Nat.le_of_ble_eq_true rfl)⟩) (rest := []) trivial rfl hl.1 rfl (Nat.le_of_ble_eq_true rfl) dX5_turn_34 ⟨Nat.zero_le _, Nat.zero_le _⟩) (fun r34 h => ?_)
        refine lv_iload_n hx hb dX5_turn_37 rfl (lv_at hl 2 rfl) ?_
        refine kR (kS Cc (mX5_bits l D κ h) (qX5_bits hts (tw_1070 hts) ⟨(Nat.le_of_ble_eq_true rfl), (Nat.le_of_ble_eq_true rfl)⟩) (rest := [.int r34]) trivial rfl hl.1 rfl (Nat.le_of_ble_eq_true rfl) dX5_turn_38 ⟨Nat.zero_le _, Nat.zero_le _⟩) (fun r38 h => ?_)
        refine lv_icmp_gt (tgt := 57) hx hb dX5_turn_41 (by decide) (fun c41 => ?_) (fun c41 => ?_)
        · have h := h.1 c41
          exact bX5_turn_57 Cc hIt hih25 x1 x2 x3 σ _ _ hPt hS _ (lv_sub hl [0, 1, 2, 3] rfl) h
        · have h := h.2 c41
          exact bX5_turn_44 Cc hIt hih25 x1 x2 x3 σ _ _ hPt hS _ (lv_sub hl [0, 1, 2, 3] rfl) h
set_option maxHeartbeats 4000000 in
set_option maxRecDepth 100000 in
theorem mX5_turn (l : Launch) (D : va_G) (κ : Nat → ClassId) (τ : Nat → Nat) (a : Nat → Nat) {σ : Mx} {x1 : Int32} {Q : Int32 → Mx → Prop} (hIt : Ij a 13) (h : pX5_turn σ x1 Q) : Met l yX5_turn (wz yX5_turn cX5_turn 4 (some .int)) rX5_turn (va_Pc [.ref (a 0), .int x1] (PE D κ (fun H => va_P D classes (wMo κ τ a σ) H))) (QWi Q (fun u H => va_P D classes (wMo κ τ a u) H) (cA a 13)) 0 0 (cA a 13) := by
  refine Met_of l (own := RX5) (by decide) rfl (Nat.le_of_ble_eq_true rfl) (fun p e s m below meth c Cc hPP ls hl => ?_)
  obtain ⟨hx, hb, hml, hown, hts, hr, hlk, hE⟩ := id Cc
  have hl : lv_has ls 4 [(0, .ref (a 0)), (1, .int x1)] := hl
  have hPt := hPP
  have hS : va_S (cA a 13) s.heap s.heap [] := va_S.rf
  unfold pX5_turn at h
  refine lv_iload_n hx hb dX5_turn_0 rfl (lv_at hl 1 rfl) ?_
  refine lv_iconst (v := 0) hx hb dX5_turn_1 (by decide) ?_
  refine lv_sipush (v := 999) hx hb dX5_turn_2 (by decide) ?_
  refine kR (kS Cc (mX5_within l D κ h) (qX5_within hts (tw_832 hts) ⟨(Nat.le_of_ble_eq_true rfl), (Nat.le_of_ble_eq_true rfl)⟩) (rest := []) trivial rfl hl.1 rfl (Nat.le_of_ble_eq_true rfl) dX5_turn_5 ⟨Nat.zero_le _, Nat.zero_le _⟩) (fun r5 h => ?_)
  refine lv_if_ne (tgt := 18) hx hb dX5_turn_8 (by decide) (fun c8 => ?_) (fun c8 => ?_)
  · have h := h.1 c8
    refine lv_iconst (v := (-1)) hx hb dX5_turn_18 (by decide) ?_
    refine lv_istore_n (lv' := [(2, .int (-1)), (0, .ref (a 0)), (1, .int x1)]) hx hb dX5_turn_19 rfl hl (by decide) rfl (fun ls hl => ?_)
    refine lv_aload_n hx hb dX5_turn_20 rfl (lv_at hl 1 rfl) ?_
    refine kR (kV Cc (mX5_everything l D κ τ a h) (qX5_everything hts (tw_998 hts) ⟨(Nat.le_of_ble_eq_true rfl), (Nat.le_of_ble_eq_true rfl)⟩) (va_recv hE.1 hPt (ci := 5) (q0 := 0) rfl rfl) (rest := []) hPt rfl hl.1 rfl (Nat.le_of_ble_eq_true rfl) dX5_turn_21 ⟨Nat.zero_le _, Nat.zero_le _⟩) (fun r21 h => ?_)
    refine lv_istore_n (lv' := [(3, .int r21), (2, .int (-1)), (0, .ref (a 0)), (1, .int x1)]) hx hb dX5_turn_24 rfl hl (by decide) rfl (fun ls hl => ?_)
    obtain ⟨n, h⟩ := h
    exact bX5_turn_25 Cc hIt n x1 (-1) r21 σ _ _ hPt hS _ (lv_sub hl [2, 3, 1, 0] rfl) h
  · have h := h.2 c8
    refine lv_aload_n hx hb dX5_turn_11 rfl (lv_at hl 0 rfl) ?_
    refine lv_ldc (own := RX5) (v := (-1000001)) hx hb hown (tw_842 hts) dX5_turn_12 ?_
    refine kWi (kV Cc (mX5_finding l D κ τ a hIt h) (qX5_finding hts (tw_843 hts) ⟨(Nat.le_of_ble_eq_true rfl), (Nat.le_of_ble_eq_true rfl)⟩) (va_recv hE.1 hPt (ci := 5) (q0 := 0) rfl rfl) (rest := []) hPt rfl hl.1 rfl (Nat.le_of_ble_eq_true rfl) dX5_turn_14 ⟨Nat.zero_le _, Nat.zero_le _⟩) hS (fun q h9 => h9) (fun r14 u14 H1 locs1 h hB hk hS1 => ?_)
    have hPt := hB
    have hS := hS1
    exact W.iret (v := r14) hx hb hr (fun t ht _ => QWi.mk (u := u14) h hPt hS ht) hS.2.2 dX5_turn_17 (hlocks := hlk)
theorem qX5_turn {R : Room} {s : State} {args : Array Value} {own : String} {idx : Nat} (hts : ∀ w ∈ gG, w.before args s = true) (hl : (Cond.methodLink own idx yX5_turn).before args s = true) (hR : rX5_turn.frames + 1 ≤ R.frames ∧ 8 + (4 + 11) + rX5_turn.locals ≤ R.locals) : CallW R s args own RX5 idx yX5_turn cX5_turn 4 (some .int) (wz yX5_turn cX5_turn 4 (some .int)) rX5_turn 0 0 1 := ⟨kw 1 hts mw_1069 rfl rfl (tw_75 hts) hl (by decide +kernel) hR, tw_1067 hts, tw_1068 hts⟩
abbrev rX5_isSheet : Room := { frames := 1, cells := 0, slots := 0, locals := 22 }
def pX5_isSheet  (x1 : Int32) (Q : Int32 → Prop) : Prop := pX5_within x1 0 3 (fun r3 => ((r3 = 0 ∨ r3 = 1) ∧ (Q r3)))
set_option maxHeartbeats 4000000 in
set_option maxRecDepth 100000 in
theorem mX5_isSheet (l : Launch) (D : va_G) (κ : Nat → ClassId)   {x1 : Int32} {Q : Int32 → Prop}  (h : pX5_isSheet  x1 Q) : Met l yX5_isSheet (wz yX5_isSheet cX5_isSheet 1 (some .boolean)) rX5_isSheet (va_Pc [.int x1] (PE D κ (fun _ => True))) (RQ Q) 0 0 (fun _ => False) := by
  refine Met_of l (own := RX5) (by decide) rfl (Nat.le_of_ble_eq_true rfl) (fun p e s m below meth c Cc hPP ls hl => ?_)
  obtain ⟨hx, hb, hml, hown, hts, hr, hlk, hE⟩ := id Cc
  have hl : lv_has ls 1 [(0, .int x1)] := hl
  unfold pX5_isSheet at h
  refine lv_iload_n hx hb dX5_isSheet_0 rfl (lv_at hl 0 rfl) ?_
  refine lv_iconst (v := 0) hx hb dX5_isSheet_1 (by decide) ?_
  refine lv_iconst (v := 3) hx hb dX5_isSheet_2 (by decide) ?_
  refine kR (kS Cc (mX5_within l D κ h) (qX5_within hts (tw_832 hts) ⟨(Nat.le_of_ble_eq_true rfl), (Nat.le_of_ble_eq_true rfl)⟩) (rest := []) trivial rfl hl.1 rfl (Nat.le_of_ble_eq_true rfl) dX5_isSheet_3 ⟨Nat.zero_le _, Nat.zero_le _⟩) (fun r3 h => ?_)
  exact W.zret (v := r3) (ty := .boolean) hx hb hr (bool_nar h.1) (fun t ht _ => RQ.mk h.2 ht) (fun _ h9 => by cases h9) dX5_isSheet_6 (hlocks := hlk)
theorem qX5_isSheet {R : Room} {s : State} {args : Array Value} {own : String} {idx : Nat} (hts : ∀ w ∈ gG, w.before args s = true) (hl : (Cond.methodLink own idx yX5_isSheet).before args s = true) (hR : rX5_isSheet.frames + 1 ≤ R.frames ∧ 8 + (1 + 11) + rX5_isSheet.locals ≤ R.locals) : CallB R s args own idx yX5_isSheet cX5_isSheet 1 (some .boolean) (wz yX5_isSheet cX5_isSheet 1 (some .boolean)) rX5_isSheet 0 0 1 ∧ (Cond.static yX5_isSheet).before args s = true := ⟨kw 1 hts mw_1087 rfl rfl (tw_75 hts) hl (by decide +kernel) hR, tw_1086 hts⟩
abbrev rX5_lacks : Room := { frames := 2, cells := 0, slots := 0, locals := 42 }
def pX5_lacks_36 (σ : Mx) (Q : Int32 → Prop) (y0 : Int32) : Prop := Q y0
def pX5_lacks (σ : Mx) (x1 : Int32) (x2 : Int32) (Q : Int32 → Prop) : Prop := pX5_isSheet x1 (fun r1 => ((¬ r1 = 0 → (vp_in x1 4 ∧ ((¬ (σ 17 x1.toNatClampNeg) = 0 → ((x2 = 0 → (pX5_lacks_36 σ Q (-1000001))) ∧ (¬ x2 = 0 → (pX5_lacks_36 σ Q 0)))) ∧ ((σ 17 x1.toNatClampNeg) = 0 → (pX5_lacks_36 σ Q (-1000006)))))) ∧ (r1 = 0 → (pX5_lacks_36 σ Q (-1000001)))))
set_option maxHeartbeats 4000000 in
set_option maxRecDepth 100000 in
theorem bX5_lacks_36 {p : Program} {l : Launch} {e : Env} {s : State} {m : MethodId} {args : Array Value} {below : List Frame} {meth : Method} {c : Code} {D : va_G} {κ : Nat → ClassId} {τ : Nat → Nat} {a : Nat → Nat} {σ : Mx}  {Q : Int32 → Prop} (Cc : Cx D κ RX5 cX5_lacks 3 (some .int) p s m args meth c)  (hPt : va_P D classes (wMo κ τ a σ) s.heap)  : ∀ (y0 : Int32) (ls : Array Slot) (hl : lv_has ls 3 []) (h : pX5_lacks_36 σ Q y0), W p l e rX5_lacks s m args below meth c s.heap [] 0 0 (MQ below (RQ Q) args s 0 0 (fun _ => False)) (F0 m 36 ls [.int y0]) := by
  obtain ⟨hx, hb, hml, hown, hts, hr, hlk, hE⟩ := id Cc
  intro y0 ls hl h
  unfold pX5_lacks_36 at h
  exact W.iret (v := y0) hx hb hr (fun t ht _ => RQ.mk h ht) (fun _ h9 => by cases h9) dX5_lacks_36 (hlocks := hlk)
set_option maxHeartbeats 4000000 in
set_option maxRecDepth 100000 in
theorem mX5_lacks (l : Launch) (D : va_G) (κ : Nat → ClassId) (τ : Nat → Nat) (a : Nat → Nat) {σ : Mx} {x1 : Int32} {x2 : Int32} {Q : Int32 → Prop}  (h : pX5_lacks σ x1 x2 Q) : Met l yX5_lacks (wz yX5_lacks cX5_lacks 3 (some .int)) rX5_lacks (va_Pc [.ref (a 0), .int x1, .int x2] (PE D κ (fun H => va_P D classes (wMo κ τ a σ) H))) (RQ Q) 0 0 (fun _ => False) := by
  refine Met_of l (own := RX5) (by decide) rfl (Nat.le_of_ble_eq_true rfl) (fun p e s m below meth c Cc hPP ls hl => ?_)
  obtain ⟨hx, hb, hml, hown, hts, hr, hlk, hE⟩ := id Cc
  have hl : lv_has ls 3 [(0, .ref (a 0)), (1, .int x1), (2, .int x2)] := hl
  have hPt := hPP
  unfold pX5_lacks at h
  refine lv_iload_n hx hb dX5_lacks_0 rfl (lv_at hl 1 rfl) ?_
  refine kR (kS Cc (mX5_isSheet l D κ h) (qX5_isSheet hts (tw_1085 hts) ⟨(Nat.le_of_ble_eq_true rfl), (Nat.le_of_ble_eq_true rfl)⟩) (rest := []) trivial rfl hl.1 rfl (Nat.le_of_ble_eq_true rfl) dX5_lacks_1 ⟨Nat.zero_le _, Nat.zero_le _⟩) (fun r1 h => ?_)
  refine lv_if_ne (tgt := 12) hx hb dX5_lacks_4 (by decide) (fun c4 => ?_) (fun c4 => ?_)
  · have h := h.1 c4
    refine lv_aload_n hx hb dX5_lacks_12 rfl (lv_at hl 0 rfl) ?_
    refine gMo_17 Cc hPt (tw_778 hts) dX5_lacks_13 ?_
    refine lv_iload_n hx hb dX5_lacks_16 rfl (lv_at hl 1 rfl) ?_
    refine lMo_17 Cc hPt h.1 dX5_lacks_17 ?_
    have h := h.2
    refine lv_if_ne (tgt := 26) hx hb dX5_lacks_18 (by decide) (fun c18 => ?_) (fun c18 => ?_)
    · have h := h.1 c18
      refine lv_iload_n hx hb dX5_lacks_26 rfl (lv_at hl 2 rfl) ?_
      refine lv_if_eq (tgt := 34) hx hb dX5_lacks_27 (by decide) (fun c27 => ?_) (fun c27 => ?_)
      · have h := h.1 c27
        refine lv_ldc (own := RX5) (v := (-1000001)) hx hb hown (tw_842 hts) dX5_lacks_34 ?_
        exact bX5_lacks_36 Cc hPt (-1000001)  _ (lv_sub hl [] rfl) h
      · have h := h.2 c27
        refine lv_iconst (v := 0) hx hb dX5_lacks_30 (by decide) ?_
        refine lv_goto (tgt := 36) hx hb dX5_lacks_31 (by decide) ?_
        exact bX5_lacks_36 Cc hPt 0  _ (lv_sub hl [] rfl) h
    · have h := h.2 c18
      refine lv_ldc (own := RX5) (v := (-1000006)) hx hb hown (tw_1088 hts) dX5_lacks_21 ?_
      refine lv_goto (tgt := 36) hx hb dX5_lacks_23 (by decide) ?_
      exact bX5_lacks_36 Cc hPt (-1000006)  _ (lv_sub hl [] rfl) h
  · have h := h.2 c4
    refine lv_ldc (own := RX5) (v := (-1000001)) hx hb hown (tw_842 hts) dX5_lacks_7 ?_
    refine lv_goto (tgt := 36) hx hb dX5_lacks_9 (by decide) ?_
    exact bX5_lacks_36 Cc hPt (-1000001)  _ (lv_sub hl [] rfl) h
theorem qX5_lacks {R : Room} {s : State} {args : Array Value} {own : String} {idx : Nat} (hts : ∀ w ∈ gG, w.before args s = true) (hl : (Cond.methodLink own idx yX5_lacks).before args s = true) (hR : rX5_lacks.frames + 1 ≤ R.frames ∧ 8 + (3 + 11) + rX5_lacks.locals ≤ R.locals) : CallW R s args own RX5 idx yX5_lacks cX5_lacks 3 (some .int) (wz yX5_lacks cX5_lacks 3 (some .int)) rX5_lacks 0 0 2 := ⟨kw 2 hts mw_1084 rfl rfl (tw_75 hts) hl (by decide +kernel) hR, tw_1083 hts, tw_55 hts⟩
abbrev rX5_isSo : Room := { frames := 5, cells := 0, slots := 0, locals := 113 }
def pX5_isSo_68 (ih15 : Int32 → Int32 → Int32 → Mx → Prop) (Q : Int32 → Mx → Prop) (x1 : Int32) (x3 : Int32) (y0 : Int32) (σ : Mx) : Prop := pX5_year σ (fun u70 => (ih15 x1 y0 (x3 + 1) u70))
def pX5_isSo_63 (ih15 : Int32 → Int32 → Int32 → Mx → Prop) (Q : Int32 → Mx → Prop) (x1 : Int32) (x3 : Int32) (σ : Mx) : Prop := pX5_isSo_68 ih15 Q x1 x3 1 σ
def pX5_isSo_79 (Q : Int32 → Mx → Prop) (x2 : Int32) (σ : Mx) : Prop := pX5_copyRow_20 σ (fun u87 => ((x2 = 0 ∨ x2 = 1) ∧ (Q x2 u87)))
def pX5_isSo_15s  (ih15 : Int32 → Int32 → Int32 → Mx → Prop) (Q : Int32 → Mx → Prop) (x1 : Int32) (x2 : Int32) (x3 : Int32) (σ : Mx) : Prop := vp_in x1 4 ∧ (((σ 18 x1.toNatClampNeg) ≤ x3 → (pX5_isSo_79 Q x2 σ)) ∧ (¬ (σ 18 x1.toNatClampNeg) ≤ x3 → ((12 ≤ x3 → (pX5_isSo_79 Q x2 σ)) ∧ (¬ 12 ≤ x3 → ((x2 = 0 → (pX5_isSo_79 Q x2 σ)) ∧ (¬ x2 = 0 → (vp_in ((40 * x1) + x3) 160 ∧ (∀ v46 : Int32, v46 = (σ 19 ((40 * x1) + x3).toNatClampNeg) → ((v46 = (-1) → (pX5_isSo_63 ih15 Q x1 x3 σ)) ∧ (¬ v46 = (-1) → (pX5_sumNow σ (fun r57 => ((¬ v46 = r57 → (pX5_isSo_68 ih15 Q x1 x3 0 σ)) ∧ (v46 = r57 → (pX5_isSo_63 ih15 Q x1 x3 σ)))))))))))))))
noncomputable def pX5_isSo_15 (Q : Int32 → Mx → Prop) (n : Nat) : Int32 → Int32 → Int32 → Mx → Prop := Nat.rec (motive := fun _ => Int32 → Int32 → Int32 → Mx → Prop) (fun _ _ _ _ => False) (fun _ ih => pX5_isSo_15s ih Q) n
def pX5_isSo (σ : Mx) (x1 : Int32) (Q : Int32 → Mx → Prop) : Prop := pX5_copyRow_02 σ (fun u8 => (∃ n, pX5_isSo_15 Q n x1 1 0 u8))
set_option maxHeartbeats 4000000 in
set_option maxRecDepth 100000 in
theorem bX5_isSo_68 {p : Program} {l : Launch} {e : Env} {s : State} {m : MethodId} {args : Array Value} {below : List Frame} {meth : Method} {c : Code} {D : va_G} {κ : Nat → ClassId} {τ : Nat → Nat} {a : Nat → Nat}  {ih15 : Int32 → Int32 → Int32 → Mx → Prop} {Q : Int32 → Mx → Prop} (Cc : Cx D κ RX5 cX5_isSo 5 (some .boolean) p s m args meth c) (hIt : Ij a 13)  (hih15 : ∀ (x1 : Int32) (x2 : Int32) (x3 : Int32) (σ : Mx) (H : Heap) (locs : List Loc) (hPt : va_P D classes (wMo κ τ a σ) H) (hS : va_S (cA a 13) s.heap H locs) (ls : Array Slot) (hl : lv_has ls 5 [(0, .ref (a 0)), (1, .int x1), (2, .int x2), (3, .int x3)]) (h : ih15 x1 x2 x3 σ), W p l e rX5_isSo s m args below meth c H locs 0 0 (MQ below (QWi Q (fun u H => va_P D classes (wMo κ τ a u) H) (cA a 13)) args s 0 0 (cA a 13)) (F0 m 15 ls [])) : ∀ (x1 : Int32) (x3 : Int32) (y0 : Int32) (σ : Mx) (H : Heap) (locs : List Loc) (hPt : va_P D classes (wMo κ τ a σ) H) (hS : va_S (cA a 13) s.heap H locs) (ls : Array Slot) (hl : lv_has ls 5 [(0, .ref (a 0)), (1, .int x1), (3, .int x3)]) (h : pX5_isSo_68 ih15 Q x1 x3 y0 σ), W p l e rX5_isSo s m args below meth c H locs 0 0 (MQ below (QWi Q (fun u H => va_P D classes (wMo κ τ a u) H) (cA a 13)) args s 0 0 (cA a 13)) (F0 m 68 ls [.int y0]) := by
  obtain ⟨hx, hb, hml, hown, hts, hr, hlk, hE⟩ := id Cc
  intro x1 x3 y0 σ H locs hPt hS ls hl h
  unfold pX5_isSo_68 at h
  refine lv_istore_n (lv' := [(2, .int y0), (0, .ref (a 0)), (1, .int x1), (3, .int x3)]) hx hb dX5_isSo_68 rfl hl (by decide) rfl (fun ls hl => ?_)
  refine lv_aload_n hx hb dX5_isSo_69 rfl (lv_at hl 1 rfl) ?_
  refine kWv (kV Cc (mX5_year l D κ τ a hIt h) (qX5_year hts (tw_951 hts) ⟨(Nat.le_of_ble_eq_true rfl), (Nat.le_of_ble_eq_true rfl)⟩) (va_recv hE.1 hPt (ci := 5) (q0 := 0) rfl rfl) (rest := []) hPt rfl hl.1 rfl (Nat.le_of_ble_eq_true rfl) dX5_isSo_70 ⟨Nat.zero_le _, Nat.zero_le _⟩) hS (fun q h9 => h9) (fun  u70 H1 locs1 h hB hk hS1 => ?_)
  have hPt := hB
  have hS := hS1
  refine lv_iinc (v := (x3 + 1)) (lv' := [(3, .int (x3 + 1)), (2, .int y0), (0, .ref (a 0)), (1, .int x1)]) hx hb dX5_isSo_73 hl (k := 3) rfl rfl (by decide) rfl (fun ls hl => ?_)
  refine lv_goto (tgt := 15) hx hb dX5_isSo_76 (by decide) ?_
  exact hih15 x1 y0 (x3 + 1) u70 _ _ hPt hS _ (lv_sub hl [2, 3, 1, 0] rfl) h
set_option maxHeartbeats 4000000 in
set_option maxRecDepth 100000 in
theorem bX5_isSo_63 {p : Program} {l : Launch} {e : Env} {s : State} {m : MethodId} {args : Array Value} {below : List Frame} {meth : Method} {c : Code} {D : va_G} {κ : Nat → ClassId} {τ : Nat → Nat} {a : Nat → Nat}  {ih15 : Int32 → Int32 → Int32 → Mx → Prop} {Q : Int32 → Mx → Prop} (Cc : Cx D κ RX5 cX5_isSo 5 (some .boolean) p s m args meth c) (hIt : Ij a 13)  (hih15 : ∀ (x1 : Int32) (x2 : Int32) (x3 : Int32) (σ : Mx) (H : Heap) (locs : List Loc) (hPt : va_P D classes (wMo κ τ a σ) H) (hS : va_S (cA a 13) s.heap H locs) (ls : Array Slot) (hl : lv_has ls 5 [(0, .ref (a 0)), (1, .int x1), (2, .int x2), (3, .int x3)]) (h : ih15 x1 x2 x3 σ), W p l e rX5_isSo s m args below meth c H locs 0 0 (MQ below (QWi Q (fun u H => va_P D classes (wMo κ τ a u) H) (cA a 13)) args s 0 0 (cA a 13)) (F0 m 15 ls [])) : ∀ (x1 : Int32) (x3 : Int32) (σ : Mx) (H : Heap) (locs : List Loc) (hPt : va_P D classes (wMo κ τ a σ) H) (hS : va_S (cA a 13) s.heap H locs) (ls : Array Slot) (hl : lv_has ls 5 [(0, .ref (a 0)), (1, .int x1), (3, .int x3)]) (h : pX5_isSo_63 ih15 Q x1 x3 σ), W p l e rX5_isSo s m args below meth c H locs 0 0 (MQ below (QWi Q (fun u H => va_P D classes (wMo κ τ a u) H) (cA a 13)) args s 0 0 (cA a 13)) (F0 m 63 ls []) := by
  obtain ⟨hx, hb, hml, hown, hts, hr, hlk, hE⟩ := id Cc
  intro x1 x3 σ H locs hPt hS ls hl h
  unfold pX5_isSo_63 at h
  refine lv_iconst (v := 1) hx hb dX5_isSo_63 (by decide) ?_
  refine lv_goto (tgt := 68) hx hb dX5_isSo_64 (by decide) ?_
  exact bX5_isSo_68 Cc hIt hih15 x1 x3 1 σ _ _ hPt hS _ (lv_sub hl [0, 1, 2] rfl) h
set_option maxHeartbeats 4000000 in
set_option maxRecDepth 100000 in
theorem bX5_isSo_79 {p : Program} {l : Launch} {e : Env} {s : State} {m : MethodId} {args : Array Value} {below : List Frame} {meth : Method} {c : Code} {D : va_G} {κ : Nat → ClassId} {τ : Nat → Nat} {a : Nat → Nat}   {Q : Int32 → Mx → Prop} (Cc : Cx D κ RX5 cX5_isSo 5 (some .boolean) p s m args meth c) (hIt : Ij a 13)   : ∀ (x2 : Int32) (σ : Mx) (H : Heap) (locs : List Loc) (hPt : va_P D classes (wMo κ τ a σ) H) (hS : va_S (cA a 13) s.heap H locs) (ls : Array Slot) (hl : lv_has ls 5 [(0, .ref (a 0)), (2, .int x2)]) (h : pX5_isSo_79 Q x2 σ), W p l e rX5_isSo s m args below meth c H locs 0 0 (MQ below (QWi Q (fun u H => va_P D classes (wMo κ τ a u) H) (cA a 13)) args s 0 0 (cA a 13)) (F0 m 79 ls []) := by
  obtain ⟨hx, hb, hml, hown, hts, hr, hlk, hE⟩ := id Cc
  intro x2 σ H locs hPt hS ls hl h
  unfold pX5_isSo_79 at h
  refine lv_aload_n hx hb dX5_isSo_79 rfl (lv_at hl 0 rfl) ?_
  refine gMo_2 Cc hPt (tw_763 hts) dX5_isSo_80 ?_
  refine lv_aload_n hx hb dX5_isSo_83 rfl (lv_at hl 0 rfl) ?_
  refine gMo_0 Cc hPt (tw_761 hts) dX5_isSo_84 ?_
  refine kWv (kS Cc (mX5_copyRow_20 l D κ τ a hIt h) (qX5_copyRow_20 hts (tw_1014 hts) ⟨(Nat.le_of_ble_eq_true rfl), (Nat.le_of_ble_eq_true rfl)⟩) (rest := []) hPt rfl hl.1 rfl (Nat.le_of_ble_eq_true rfl) dX5_isSo_87 ⟨Nat.zero_le _, Nat.zero_le _⟩) hS (fun q h9 => h9) (fun  u87 H1 locs1 h hB hk hS1 => ?_)
  have hPt := hB
  have hS := hS1
  refine lv_iload_n hx hb dX5_isSo_90 rfl (lv_at hl 1 rfl) ?_
  exact W.zret (v := x2) (ty := .boolean) hx hb hr (bool_nar h.1) (fun t ht _ => QWi.mk (u := u87) h.2 hPt hS ht) hS.2.2 dX5_isSo_91 (hlocks := hlk)
set_option maxHeartbeats 4000000 in
set_option maxRecDepth 100000 in
theorem bX5_isSo_15 {p : Program} {l : Launch} {e : Env} {s : State} {m : MethodId} {args : Array Value} {below : List Frame} {meth : Method} {c : Code} {D : va_G} {κ : Nat → ClassId} {τ : Nat → Nat} {a : Nat → Nat}   {Q : Int32 → Mx → Prop} (Cc : Cx D κ RX5 cX5_isSo 5 (some .boolean) p s m args meth c) (hIt : Ij a 13)   (n : Nat) : ∀ (x1 : Int32) (x2 : Int32) (x3 : Int32) (σ : Mx) (H : Heap) (locs : List Loc) (hPt : va_P D classes (wMo κ τ a σ) H) (hS : va_S (cA a 13) s.heap H locs) (ls : Array Slot) (hl : lv_has ls 5 [(0, .ref (a 0)), (1, .int x1), (2, .int x2), (3, .int x3)]) (h : pX5_isSo_15 Q n x1 x2 x3 σ), W p l e rX5_isSo s m args below meth c H locs 0 0 (MQ below (QWi Q (fun u H => va_P D classes (wMo κ τ a u) H) (cA a 13)) args s 0 0 (cA a 13)) (F0 m 15 ls []) := by
  obtain ⟨hx, hb, hml, hown, hts, hr, hlk, hE⟩ := id Cc
  induction n with
  | zero =>
    intro x1 x2 x3 σ H locs hPt hS ls hl h
    exact absurd h (fun z => z)
  | succ n hih15 =>
    intro x1 x2 x3 σ H locs hPt hS ls hl h
    have h : pX5_isSo_15s (pX5_isSo_15 Q n) Q x1 x2 x3 σ := h
    unfold pX5_isSo_15s at h
    refine lv_iload_n hx hb dX5_isSo_15 rfl (lv_at hl 3 rfl) ?_
    refine lv_aload_n hx hb dX5_isSo_16 rfl (lv_at hl 0 rfl) ?_
    refine gMo_18 Cc hPt (tw_779 hts) dX5_isSo_17 ?_
    refine lv_iload_n hx hb dX5_isSo_20 rfl (lv_at hl 1 rfl) ?_
    refine lMo_18 Cc hPt h.1 dX5_isSo_21 ?_
    have h := h.2
    refine lv_icmp_ge (tgt := 79) hx hb dX5_isSo_22 (by decide) (fun c22 => ?_) (fun c22 => ?_)
    · have h := h.1 c22
      exact bX5_isSo_79 Cc hIt x2 σ _ _ hPt hS _ (lv_sub hl [0, 2] rfl) h
    · have h := h.2 c22
      refine lv_iload_n hx hb dX5_isSo_25 rfl (lv_at hl 3 rfl) ?_
      refine lv_bipush (v := 12) hx hb dX5_isSo_26 (by decide) ?_
      refine lv_icmp_ge (tgt := 79) hx hb dX5_isSo_28 (by decide) (fun c28 => ?_) (fun c28 => ?_)
      · have h := h.1 c28
        exact bX5_isSo_79 Cc hIt x2 σ _ _ hPt hS _ (lv_sub hl [0, 2] rfl) h
      · have h := h.2 c28
        refine lv_iload_n hx hb dX5_isSo_31 rfl (lv_at hl 2 rfl) ?_
        refine lv_if_eq (tgt := 79) hx hb dX5_isSo_32 (by decide) (fun c32 => ?_) (fun c32 => ?_)
        · have h := h.1 c32
          exact bX5_isSo_79 Cc hIt x2 σ _ _ hPt hS _ (lv_sub hl [0, 2] rfl) h
        · have h := h.2 c32
          refine lv_aload_n hx hb dX5_isSo_35 rfl (lv_at hl 0 rfl) ?_
          refine gMo_19 Cc hPt (tw_780 hts) dX5_isSo_36 ?_
          refine lv_bipush (v := 40) hx hb dX5_isSo_39 (by decide) ?_
          refine lv_iload_n hx hb dX5_isSo_41 rfl (lv_at hl 1 rfl) ?_
          refine lv_imul hx hb dX5_isSo_42 ?_
          refine lv_iload_n hx hb dX5_isSo_43 rfl (lv_at hl 3 rfl) ?_
          refine lv_iadd hx hb dX5_isSo_44 ?_
          refine lMo_19 Cc hPt h.1 dX5_isSo_45 ?_
          have h := h.2
          refine lv_topi (fun v46 e46 => ?_)
          have h := h v46 e46
          refine lv_istore (lv' := [(4, .int v46), (0, .ref (a 0)), (1, .int x1), (2, .int x2), (3, .int x3)]) hx hb dX5_isSo_46 hl (by decide) rfl (fun ls hl => ?_)
          refine lv_iload hx hb dX5_isSo_48 (lv_at hl 0 rfl) ?_
          refine lv_iconst (v := (-1)) hx hb dX5_isSo_50 (by decide) ?_
          refine lv_icmp_eq (tgt := 63) hx hb dX5_isSo_51 (by decide) (fun c51 => ?_) (fun c51 => ?_)
          · have h := h.1 c51
            exact bX5_isSo_63 Cc hIt hih15 x1 x3 σ _ _ hPt hS _ (lv_sub hl [1, 2, 4] rfl) h
          · have h := h.2 c51
            refine lv_iload hx hb dX5_isSo_54 (lv_at hl 0 rfl) ?_
            refine lv_aload_n hx hb dX5_isSo_56 rfl (lv_at hl 1 rfl) ?_
            refine kR (kV Cc (mX5_sumNow l D κ τ a h) (qX5_sumNow hts (tw_937 hts) ⟨(Nat.le_of_ble_eq_true rfl), (Nat.le_of_ble_eq_true rfl)⟩) (va_recv hE.1 hPt (ci := 5) (q0 := 0) rfl rfl) (rest := [.int v46]) hPt rfl hl.1 rfl (Nat.le_of_ble_eq_true rfl) dX5_isSo_57 ⟨Nat.zero_le _, Nat.zero_le _⟩) (fun r57 h => ?_)
            refine lv_icmp_ne (tgt := 67) hx hb dX5_isSo_60 (by decide) (fun c60 => ?_) (fun c60 => ?_)
            · have h := h.1 c60
              refine lv_iconst (v := 0) hx hb dX5_isSo_67 (by decide) ?_
              exact bX5_isSo_68 Cc hIt hih15 x1 x3 0 σ _ _ hPt hS _ (lv_sub hl [1, 2, 4] rfl) h
            · have h := h.2 c60
              exact bX5_isSo_63 Cc hIt hih15 x1 x3 σ _ _ hPt hS _ (lv_sub hl [1, 2, 4] rfl) h
set_option maxHeartbeats 4000000 in
set_option maxRecDepth 100000 in
theorem mX5_isSo (l : Launch) (D : va_G) (κ : Nat → ClassId) (τ : Nat → Nat) (a : Nat → Nat) {σ : Mx} {x1 : Int32} {Q : Int32 → Mx → Prop} (hIt : Ij a 13) (h : pX5_isSo σ x1 Q) : Met l yX5_isSo (wz yX5_isSo cX5_isSo 5 (some .boolean)) rX5_isSo (va_Pc [.ref (a 0), .int x1] (PE D κ (fun H => va_P D classes (wMo κ τ a σ) H))) (QWi Q (fun u H => va_P D classes (wMo κ τ a u) H) (cA a 13)) 0 0 (cA a 13) := by
  refine Met_of l (own := RX5) (by decide) rfl (Nat.le_of_ble_eq_true rfl) (fun p e s m below meth c Cc hPP ls hl => ?_)
  obtain ⟨hx, hb, hml, hown, hts, hr, hlk, hE⟩ := id Cc
  have hl : lv_has ls 5 [(0, .ref (a 0)), (1, .int x1)] := hl
  have hPt := hPP
  have hS : va_S (cA a 13) s.heap s.heap [] := va_S.rf
  unfold pX5_isSo at h
  refine lv_aload_n hx hb dX5_isSo_0 rfl (lv_at hl 0 rfl) ?_
  refine gMo_0 Cc hPt (tw_761 hts) dX5_isSo_1 ?_
  refine lv_aload_n hx hb dX5_isSo_4 rfl (lv_at hl 0 rfl) ?_
  refine gMo_2 Cc hPt (tw_763 hts) dX5_isSo_5 ?_
  refine kWv (kS Cc (mX5_copyRow_02 l D κ τ a hIt h) (qX5_copyRow_02 hts (tw_1014 hts) ⟨(Nat.le_of_ble_eq_true rfl), (Nat.le_of_ble_eq_true rfl)⟩) (rest := []) hPt rfl hl.1 rfl (Nat.le_of_ble_eq_true rfl) dX5_isSo_8 ⟨Nat.zero_le _, Nat.zero_le _⟩) hS (fun q h9 => h9) (fun  u8 H1 locs1 h hB hk hS1 => ?_)
  have hPt := hB
  have hS := hS1
  refine lv_iconst (v := 1) hx hb dX5_isSo_11 (by decide) ?_
  refine lv_istore_n (lv' := [(2, .int 1), (0, .ref (a 0)), (1, .int x1)]) hx hb dX5_isSo_12 rfl hl (by decide) rfl (fun ls hl => ?_)
  refine lv_iconst (v := 0) hx hb dX5_isSo_13 (by decide) ?_
  refine lv_istore_n (lv' := [(3, .int 0), (2, .int 1), (0, .ref (a 0)), (1, .int x1)]) hx hb dX5_isSo_14 rfl hl (by decide) rfl (fun ls hl => ?_)
  obtain ⟨n, h⟩ := h
  exact bX5_isSo_15 Cc hIt n x1 1 0 u8 _ _ hPt hS _ (lv_sub hl [2, 3, 1, 0] rfl) h
theorem qX5_isSo {R : Room} {s : State} {args : Array Value} {own : String} {idx : Nat} (hts : ∀ w ∈ gG, w.before args s = true) (hl : (Cond.methodLink own idx yX5_isSo).before args s = true) (hR : rX5_isSo.frames + 1 ≤ R.frames ∧ 8 + (5 + 11) + rX5_isSo.locals ≤ R.locals) : CallW R s args own RX5 idx yX5_isSo cX5_isSo 5 (some .boolean) (wz yX5_isSo cX5_isSo 5 (some .boolean)) rX5_isSo 0 0 1 := ⟨kw 1 hts mw_1092 rfl rfl (tw_75 hts) hl (by decide +kernel) hR, tw_1091 hts, tw_56 hts⟩
abbrev rX5_fits : Room := { frames := 6, cells := 0, slots := 0, locals := 137 }
def pX5_fits_95 (ih43 : Int32 → Int32 → Int32 → Int32 → Int32 → Int32 → Mx → Prop) (Q : Int32 → Mx → Prop) (x1 : Int32) (x2 : Int32) (x4 : Int32) (x5 : Int32) (x7 : Int32) (y0 : Int32) (y1 : Int32) (σ : Mx) : Prop := ∀ v96 : Int32, v96 = (y1 + y0) → (ih43 x1 x2 x4 x5 v96 (x7 + 1) σ)
def pX5_fits_43s  (ih43 : Int32 → Int32 → Int32 → Int32 → Int32 → Int32 → Mx → Prop) (Q : Int32 → Mx → Prop) (x1 : Int32) (x2 : Int32) (x4 : Int32) (x5 : Int32) (x6 : Int32) (x7 : Int32) (σ : Mx) : Prop := (100 ≤ x7 → (pX5_pieceAt x2 1 (fun r110 => (vp_in r110 67 ∧ (pX5_pieceAt x2 2 (fun r122 => (vp_in r122 67 ∧ (Q x6 (st (st σ 0 r110.toNatClampNeg x4) 0 r122.toNatClampNeg x5))))))))) ∧ (¬ 100 ≤ x7 → (pX5_pieceAt x2 1 (fun r56 => (vp_in r56 67 ∧ (pX5_pieceAt x2 2 (fun r71 => (vp_in r71 67 ∧ (pX5_isSo (st (st σ 0 r56.toNatClampNeg (x7 / 10)) 0 r71.toNatClampNeg (x7 - x7 / 10 * 10)) x1 (fun r84 u84 => ((r84 = 0 → (pX5_fits_95 ih43 Q x1 x2 x4 x5 x7 0 x6 u84)) ∧ (¬ r84 = 0 → (pX5_fits_95 ih43 Q x1 x2 x4 x5 x7 1 x6 u84))))))))))))
noncomputable def pX5_fits_43 (Q : Int32 → Mx → Prop) (n : Nat) : Int32 → Int32 → Int32 → Int32 → Int32 → Int32 → Mx → Prop := Nat.rec (motive := fun _ => Int32 → Int32 → Int32 → Int32 → Int32 → Int32 → Mx → Prop) (fun _ _ _ _ _ _ _ => False) (fun _ ih => pX5_fits_43s ih Q) n
def pX5_fits (σ : Mx) (x1 : Int32) (x2 : Int32) (Q : Int32 → Mx → Prop) : Prop := pX5_isPiece σ x2 (fun r4 => (pX5_lacks σ x1 r4 (fun r7 => ((r7 = 0 → (pX5_pieceIs σ x2 1 (fun r24 => (pX5_pieceIs σ x2 2 (fun r32 => (∃ n, pX5_fits_43 Q n x1 x2 r24 r32 0 0 σ)))))) ∧ (¬ r7 = 0 → (pX5_finding σ r7 (fun r17 u17 => (Q r17 u17))))))))
set_option maxHeartbeats 4000000 in
set_option maxRecDepth 100000 in
theorem bX5_fits_95 {p : Program} {l : Launch} {e : Env} {s : State} {m : MethodId} {args : Array Value} {below : List Frame} {meth : Method} {c : Code} {D : va_G} {κ : Nat → ClassId} {τ : Nat → Nat} {a : Nat → Nat}  {ih43 : Int32 → Int32 → Int32 → Int32 → Int32 → Int32 → Mx → Prop} {Q : Int32 → Mx → Prop} (Cc : Cx D κ RX5 cX5_fits 8 (some .int) p s m args meth c) (hIt : Ij a 13)  (hih43 : ∀ (x1 : Int32) (x2 : Int32) (x4 : Int32) (x5 : Int32) (x6 : Int32) (x7 : Int32) (σ : Mx) (H : Heap) (locs : List Loc) (hPt : va_P D classes (wMo κ τ a σ) H) (hS : va_S (cA a 13) s.heap H locs) (ls : Array Slot) (hl : lv_has ls 8 [(0, .ref (a 0)), (1, .int x1), (2, .int x2), (4, .int x4), (5, .int x5), (6, .int x6), (7, .int x7)]) (h : ih43 x1 x2 x4 x5 x6 x7 σ), W p l e rX5_fits s m args below meth c H locs 0 0 (MQ below (QWi Q (fun u H => va_P D classes (wMo κ τ a u) H) (cA a 13)) args s 0 0 (cA a 13)) (F0 m 43 ls [])) : ∀ (x1 : Int32) (x2 : Int32) (x4 : Int32) (x5 : Int32) (x7 : Int32) (y0 : Int32) (y1 : Int32) (σ : Mx) (H : Heap) (locs : List Loc) (hPt : va_P D classes (wMo κ τ a σ) H) (hS : va_S (cA a 13) s.heap H locs) (ls : Array Slot) (hl : lv_has ls 8 [(0, .ref (a 0)), (1, .int x1), (2, .int x2), (4, .int x4), (5, .int x5), (7, .int x7)]) (h : pX5_fits_95 ih43 Q x1 x2 x4 x5 x7 y0 y1 σ), W p l e rX5_fits s m args below meth c H locs 0 0 (MQ below (QWi Q (fun u H => va_P D classes (wMo κ τ a u) H) (cA a 13)) args s 0 0 (cA a 13)) (F0 m 95 ls [.int y0, .int y1]) := by
  obtain ⟨hx, hb, hml, hown, hts, hr, hlk, hE⟩ := id Cc
  intro x1 x2 x4 x5 x7 y0 y1 σ H locs hPt hS ls hl h
  unfold pX5_fits_95 at h
  refine lv_iadd hx hb dX5_fits_95 ?_
  refine lv_topi (fun v96 e96 => ?_)
  have h := h v96 e96
  refine lv_istore (lv' := [(6, .int v96), (0, .ref (a 0)), (1, .int x1), (2, .int x2), (4, .int x4), (5, .int x5), (7, .int x7)]) hx hb dX5_fits_96 hl (by decide) rfl (fun ls hl => ?_)
  refine lv_iinc (v := (x7 + 1)) (lv' := [(7, .int (x7 + 1)), (6, .int v96), (0, .ref (a 0)), (1, .int x1), (2, .int x2), (4, .int x4), (5, .int x5)]) hx hb dX5_fits_98 hl (k := 6) rfl rfl (by decide) rfl (fun ls hl => ?_)
  refine lv_goto (tgt := 43) hx hb dX5_fits_101 (by decide) ?_
  exact hih43 x1 x2 x4 x5 v96 (x7 + 1) σ _ _ hPt hS _ (lv_sub hl [2, 3, 4, 5, 6, 1, 0] rfl) h
set_option maxHeartbeats 4000000 in
set_option maxRecDepth 100000 in
theorem bX5_fits_43 {p : Program} {l : Launch} {e : Env} {s : State} {m : MethodId} {args : Array Value} {below : List Frame} {meth : Method} {c : Code} {D : va_G} {κ : Nat → ClassId} {τ : Nat → Nat} {a : Nat → Nat}   {Q : Int32 → Mx → Prop} (Cc : Cx D κ RX5 cX5_fits 8 (some .int) p s m args meth c) (hIt : Ij a 13)   (n : Nat) : ∀ (x1 : Int32) (x2 : Int32) (x4 : Int32) (x5 : Int32) (x6 : Int32) (x7 : Int32) (σ : Mx) (H : Heap) (locs : List Loc) (hPt : va_P D classes (wMo κ τ a σ) H) (hS : va_S (cA a 13) s.heap H locs) (ls : Array Slot) (hl : lv_has ls 8 [(0, .ref (a 0)), (1, .int x1), (2, .int x2), (4, .int x4), (5, .int x5), (6, .int x6), (7, .int x7)]) (h : pX5_fits_43 Q n x1 x2 x4 x5 x6 x7 σ), W p l e rX5_fits s m args below meth c H locs 0 0 (MQ below (QWi Q (fun u H => va_P D classes (wMo κ τ a u) H) (cA a 13)) args s 0 0 (cA a 13)) (F0 m 43 ls []) := by
  obtain ⟨hx, hb, hml, hown, hts, hr, hlk, hE⟩ := id Cc
  induction n with
  | zero =>
    intro x1 x2 x4 x5 x6 x7 σ H locs hPt hS ls hl h
    exact absurd h (fun z => z)
  | succ n hih43 =>
    intro x1 x2 x4 x5 x6 x7 σ H locs hPt hS ls hl h
    have h : pX5_fits_43s (pX5_fits_43 Q n) Q x1 x2 x4 x5 x6 x7 σ := h
    unfold pX5_fits_43s at h
    refine lv_iload hx hb dX5_fits_43 (lv_at hl 6 rfl) ?_
    refine lv_bipush (v := 100) hx hb dX5_fits_45 (by decide) ?_
    refine lv_icmp_ge (tgt := 104) hx hb dX5_fits_47 (by decide) (fun c47 => ?_) (fun c47 => ?_)
    · have h := h.1 c47
      refine lv_aload_n hx hb dX5_fits_104 rfl (lv_at hl 0 rfl) ?_
      refine gMo_0 Cc hPt (tw_761 hts) dX5_fits_105 ?_
      refine lv_iload_n hx hb dX5_fits_108 rfl (lv_at hl 2 rfl) ?_
      refine lv_iconst (v := 1) hx hb dX5_fits_109 (by decide) ?_
      refine kR (kS Cc (mX5_pieceAt l D κ h) (qX5_pieceAt hts (tw_866 hts) ⟨(Nat.le_of_ble_eq_true rfl), (Nat.le_of_ble_eq_true rfl)⟩) (rest := [.ref (a 1)]) trivial rfl hl.1 rfl (Nat.le_of_ble_eq_true rfl) dX5_fits_110 ⟨Nat.zero_le _, Nat.zero_le _⟩) (fun r110 h => ?_)
      refine lv_iload hx hb dX5_fits_113 (lv_at hl 3 rfl) ?_
      refine sMo_0 Cc hPt hIt hS ⟨1, by decide, rfl⟩ h.1 dX5_fits_115 (fun H1 locs1 hB hS1 hk => ?_)
      have h := h.2
      have hPt := hB
      have hS := hS1
      refine lv_aload_n hx hb dX5_fits_116 rfl (lv_at hl 0 rfl) ?_
      refine gMo_0 Cc hPt (tw_761 hts) dX5_fits_117 ?_
      refine lv_iload_n hx hb dX5_fits_120 rfl (lv_at hl 2 rfl) ?_
      refine lv_iconst (v := 2) hx hb dX5_fits_121 (by decide) ?_
      refine kR (kS Cc (mX5_pieceAt l D κ h) (qX5_pieceAt hts (tw_866 hts) ⟨(Nat.le_of_ble_eq_true rfl), (Nat.le_of_ble_eq_true rfl)⟩) (rest := [.ref (a 1)]) trivial rfl hl.1 rfl (Nat.le_of_ble_eq_true rfl) dX5_fits_122 ⟨Nat.zero_le _, Nat.zero_le _⟩) (fun r122 h => ?_)
      refine lv_iload hx hb dX5_fits_125 (lv_at hl 4 rfl) ?_
      refine sMo_0 Cc hPt hIt hS ⟨1, by decide, rfl⟩ h.1 dX5_fits_127 (fun H1 locs1 hB hS1 hk => ?_)
      have h := h.2
      have hPt := hB
      have hS := hS1
      refine lv_iload hx hb dX5_fits_128 (lv_at hl 5 rfl) ?_
      exact W.iret (v := x6) hx hb hr (fun t ht _ => QWi.mk (u := (st (st σ 0 r110.toNatClampNeg x4) 0 r122.toNatClampNeg x5)) h hPt hS ht) hS.2.2 dX5_fits_130 (hlocks := hlk)
    · have h := h.2 c47
      refine lv_aload_n hx hb dX5_fits_50 rfl (lv_at hl 0 rfl) ?_
      refine gMo_0 Cc hPt (tw_761 hts) dX5_fits_51 ?_
      refine lv_iload_n hx hb dX5_fits_54 rfl (lv_at hl 2 rfl) ?_
      refine lv_iconst (v := 1) hx hb dX5_fits_55 (by decide) ?_
      refine kR (kS Cc (mX5_pieceAt l D κ h) (qX5_pieceAt hts (tw_866 hts) ⟨(Nat.le_of_ble_eq_true rfl), (Nat.le_of_ble_eq_true rfl)⟩) (rest := [.ref (a 1)]) trivial rfl hl.1 rfl (Nat.le_of_ble_eq_true rfl) dX5_fits_56 ⟨Nat.zero_le _, Nat.zero_le _⟩) (fun r56 h => ?_)
      refine lv_iload hx hb dX5_fits_59 (lv_at hl 6 rfl) ?_
      refine lv_bipush (v := 10) hx hb dX5_fits_61 (by decide) ?_
      refine lv_idiv hx hb dX5_fits_63 (by decide) ?_
      refine sMo_0 Cc hPt hIt hS ⟨1, by decide, rfl⟩ h.1 dX5_fits_64 (fun H1 locs1 hB hS1 hk => ?_)
      have h := h.2
      have hPt := hB
      have hS := hS1
      refine lv_aload_n hx hb dX5_fits_65 rfl (lv_at hl 0 rfl) ?_
      refine gMo_0 Cc hPt (tw_761 hts) dX5_fits_66 ?_
      refine lv_iload_n hx hb dX5_fits_69 rfl (lv_at hl 2 rfl) ?_
      refine lv_iconst (v := 2) hx hb dX5_fits_70 (by decide) ?_
      refine kR (kS Cc (mX5_pieceAt l D κ h) (qX5_pieceAt hts (tw_866 hts) ⟨(Nat.le_of_ble_eq_true rfl), (Nat.le_of_ble_eq_true rfl)⟩) (rest := [.ref (a 1)]) trivial rfl hl.1 rfl (Nat.le_of_ble_eq_true rfl) dX5_fits_71 ⟨Nat.zero_le _, Nat.zero_le _⟩) (fun r71 h => ?_)
      refine lv_iload hx hb dX5_fits_74 (lv_at hl 6 rfl) ?_
      refine lv_bipush (v := 10) hx hb dX5_fits_76 (by decide) ?_
      refine lv_irem hx hb dX5_fits_78 (by decide) ?_
      refine sMo_0 Cc hPt hIt hS ⟨1, by decide, rfl⟩ h.1 dX5_fits_79 (fun H1 locs1 hB hS1 hk => ?_)
      have h := h.2
      have hPt := hB
      have hS := hS1
      refine lv_iload hx hb dX5_fits_80 (lv_at hl 5 rfl) ?_
      refine lv_aload_n hx hb dX5_fits_82 rfl (lv_at hl 0 rfl) ?_
      refine lv_iload_n hx hb dX5_fits_83 rfl (lv_at hl 1 rfl) ?_
      refine kWi (kV Cc (mX5_isSo l D κ τ a hIt h) (qX5_isSo hts (tw_1089 hts) ⟨(Nat.le_of_ble_eq_true rfl), (Nat.le_of_ble_eq_true rfl)⟩) (va_recv hE.1 hPt (ci := 5) (q0 := 0) rfl rfl) (rest := [.int x6]) hPt rfl hl.1 rfl (Nat.le_of_ble_eq_true rfl) dX5_fits_84 ⟨Nat.zero_le _, Nat.zero_le _⟩) hS (fun q h9 => h9) (fun r84 u84 H1 locs1 h hB hk hS1 => ?_)
      have hPt := hB
      have hS := hS1
      refine lv_if_eq (tgt := 94) hx hb dX5_fits_87 (by decide) (fun c87 => ?_) (fun c87 => ?_)
      · have h := h.1 c87
        refine lv_iconst (v := 0) hx hb dX5_fits_94 (by decide) ?_
        exact bX5_fits_95 Cc hIt hih43 x1 x2 x4 x5 x7 0 x6 u84 _ _ hPt hS _ (lv_sub hl [0, 1, 2, 3, 4, 6] rfl) h
      · have h := h.2 c87
        refine lv_iconst (v := 1) hx hb dX5_fits_90 (by decide) ?_
        refine lv_goto (tgt := 95) hx hb dX5_fits_91 (by decide) ?_
        exact bX5_fits_95 Cc hIt hih43 x1 x2 x4 x5 x7 1 x6 u84 _ _ hPt hS _ (lv_sub hl [0, 1, 2, 3, 4, 6] rfl) h
set_option maxHeartbeats 4000000 in
set_option maxRecDepth 100000 in
theorem mX5_fits (l : Launch) (D : va_G) (κ : Nat → ClassId) (τ : Nat → Nat) (a : Nat → Nat) {σ : Mx} {x1 : Int32} {x2 : Int32} {Q : Int32 → Mx → Prop} (hIt : Ij a 13) (h : pX5_fits σ x1 x2 Q) : Met l yX5_fits (wz yX5_fits cX5_fits 8 (some .int)) rX5_fits (va_Pc [.ref (a 0), .int x1, .int x2] (PE D κ (fun H => va_P D classes (wMo κ τ a σ) H))) (QWi Q (fun u H => va_P D classes (wMo κ τ a u) H) (cA a 13)) 0 0 (cA a 13) := by
  refine Met_of l (own := RX5) (by decide) rfl (Nat.le_of_ble_eq_true rfl) (fun p e s m below meth c Cc hPP ls hl => ?_)
  obtain ⟨hx, hb, hml, hown, hts, hr, hlk, hE⟩ := id Cc
  have hl : lv_has ls 8 [(0, .ref (a 0)), (1, .int x1), (2, .int x2)] := hl
  have hPt := hPP
  have hS : va_S (cA a 13) s.heap s.heap [] := va_S.rf
  unfold pX5_fits at h
  refine lv_aload_n hx hb dX5_fits_0 rfl (lv_at hl 0 rfl) ?_
  refine lv_iload_n hx hb dX5_fits_1 rfl (lv_at hl 1 rfl) ?_
  refine lv_aload_n hx hb dX5_fits_2 rfl (lv_at hl 0 rfl) ?_
  refine lv_iload_n hx hb dX5_fits_3 rfl (lv_at hl 2 rfl) ?_
  refine kR (kV Cc (mX5_isPiece l D κ τ a h) (qX5_isPiece hts (tw_873 hts) ⟨(Nat.le_of_ble_eq_true rfl), (Nat.le_of_ble_eq_true rfl)⟩) (va_recv hE.1 hPt (ci := 5) (q0 := 0) rfl rfl) (rest := [.int x1, .ref (a 0)]) hPt rfl hl.1 rfl (Nat.le_of_ble_eq_true rfl) dX5_fits_4 ⟨Nat.zero_le _, Nat.zero_le _⟩) (fun r4 h => ?_)
  refine kR (kV Cc (mX5_lacks l D κ τ a h) (qX5_lacks hts (tw_1081 hts) ⟨(Nat.le_of_ble_eq_true rfl), (Nat.le_of_ble_eq_true rfl)⟩) (va_recv hE.1 hPt (ci := 5) (q0 := 0) rfl rfl) (rest := []) hPt rfl hl.1 rfl (Nat.le_of_ble_eq_true rfl) dX5_fits_7 ⟨Nat.zero_le _, Nat.zero_le _⟩) (fun r7 h => ?_)
  refine lv_istore_n (lv' := [(3, .int r7), (0, .ref (a 0)), (1, .int x1), (2, .int x2)]) hx hb dX5_fits_10 rfl hl (by decide) rfl (fun ls hl => ?_)
  refine lv_iload_n hx hb dX5_fits_11 rfl (lv_at hl 0 rfl) ?_
  refine lv_if_eq (tgt := 21) hx hb dX5_fits_12 (by decide) (fun c12 => ?_) (fun c12 => ?_)
  · have h := h.1 c12
    refine lv_aload_n hx hb dX5_fits_21 rfl (lv_at hl 1 rfl) ?_
    refine lv_iload_n hx hb dX5_fits_22 rfl (lv_at hl 3 rfl) ?_
    refine lv_iconst (v := 1) hx hb dX5_fits_23 (by decide) ?_
    refine kR (kV Cc (mX5_pieceIs l D κ τ a h) (qX5_pieceIs hts (tw_889 hts) ⟨(Nat.le_of_ble_eq_true rfl), (Nat.le_of_ble_eq_true rfl)⟩) (va_recv hE.1 hPt (ci := 5) (q0 := 0) rfl rfl) (rest := []) hPt rfl hl.1 rfl (Nat.le_of_ble_eq_true rfl) dX5_fits_24 ⟨Nat.zero_le _, Nat.zero_le _⟩) (fun r24 h => ?_)
    refine lv_istore (lv' := [(4, .int r24), (3, .int r7), (0, .ref (a 0)), (1, .int x1), (2, .int x2)]) hx hb dX5_fits_27 hl (by decide) rfl (fun ls hl => ?_)
    refine lv_aload_n hx hb dX5_fits_29 rfl (lv_at hl 2 rfl) ?_
    refine lv_iload_n hx hb dX5_fits_30 rfl (lv_at hl 4 rfl) ?_
    refine lv_iconst (v := 2) hx hb dX5_fits_31 (by decide) ?_
    refine kR (kV Cc (mX5_pieceIs l D κ τ a h) (qX5_pieceIs hts (tw_889 hts) ⟨(Nat.le_of_ble_eq_true rfl), (Nat.le_of_ble_eq_true rfl)⟩) (va_recv hE.1 hPt (ci := 5) (q0 := 0) rfl rfl) (rest := []) hPt rfl hl.1 rfl (Nat.le_of_ble_eq_true rfl) dX5_fits_32 ⟨Nat.zero_le _, Nat.zero_le _⟩) (fun r32 h => ?_)
    refine lv_istore (lv' := [(5, .int r32), (4, .int r24), (3, .int r7), (0, .ref (a 0)), (1, .int x1), (2, .int x2)]) hx hb dX5_fits_35 hl (by decide) rfl (fun ls hl => ?_)
    refine lv_iconst (v := 0) hx hb dX5_fits_37 (by decide) ?_
    refine lv_istore (lv' := [(6, .int 0), (5, .int r32), (4, .int r24), (3, .int r7), (0, .ref (a 0)), (1, .int x1), (2, .int x2)]) hx hb dX5_fits_38 hl (by decide) rfl (fun ls hl => ?_)
    refine lv_iconst (v := 0) hx hb dX5_fits_40 (by decide) ?_
    refine lv_istore (lv' := [(7, .int 0), (6, .int 0), (5, .int r32), (4, .int r24), (3, .int r7), (0, .ref (a 0)), (1, .int x1), (2, .int x2)]) hx hb dX5_fits_41 hl (by decide) rfl (fun ls hl => ?_)
    obtain ⟨n, h⟩ := h
    exact bX5_fits_43 Cc hIt n x1 x2 r24 r32 0 0 σ _ _ hPt hS _ (lv_sub hl [5, 6, 7, 3, 2, 1, 0] rfl) h
  · have h := h.2 c12
    refine lv_aload_n hx hb dX5_fits_15 rfl (lv_at hl 1 rfl) ?_
    refine lv_iload_n hx hb dX5_fits_16 rfl (lv_at hl 0 rfl) ?_
    refine kWi (kV Cc (mX5_finding l D κ τ a hIt h) (qX5_finding hts (tw_843 hts) ⟨(Nat.le_of_ble_eq_true rfl), (Nat.le_of_ble_eq_true rfl)⟩) (va_recv hE.1 hPt (ci := 5) (q0 := 0) rfl rfl) (rest := []) hPt rfl hl.1 rfl (Nat.le_of_ble_eq_true rfl) dX5_fits_17 ⟨Nat.zero_le _, Nat.zero_le _⟩) hS (fun q h9 => h9) (fun r17 u17 H1 locs1 h hB hk hS1 => ?_)
    have hPt := hB
    have hS := hS1
    exact W.iret (v := r17) hx hb hr (fun t ht _ => QWi.mk (u := u17) h hPt hS ht) hS.2.2 dX5_fits_20 (hlocks := hlk)
theorem qX5_fits {R : Room} {s : State} {args : Array Value} {own : String} {idx : Nat} (hts : ∀ w ∈ gG, w.before args s = true) (hl : (Cond.methodLink own idx yX5_fits).before args s = true) (hR : rX5_fits.frames + 1 ≤ R.frames ∧ 8 + (8 + 11) + rX5_fits.locals ≤ R.locals) : CallW R s args own RX5 idx yX5_fits cX5_fits 8 (some .int) (wz yX5_fits cX5_fits 8 (some .int)) rX5_fits 0 0 2 := ⟨kw 2 hts mw_1080 rfl rfl (tw_75 hts) hl (by decide +kernel) hR, tw_1078 hts, tw_1079 hts⟩
abbrev rX5_kinds : Room := { frames := 6, cells := 0, slots := 0, locals := 137 }
def pX5_kinds_77 (ih43 : Int32 → Int32 → Int32 → Int32 → Int32 → Mx → Prop) (Q : Int32 → Mx → Prop) (x1 : Int32) (x4 : Int32) (x5 : Int32) (x7 : Int32) (y0 : Int32) (y1 : Int32) (σ : Mx) : Prop := ∀ v78 : Int32, v78 = (y1 ||| y0) → (ih43 x1 x4 x5 v78 (x7 + 1) σ)
def pX5_kinds_43s  (ih43 : Int32 → Int32 → Int32 → Int32 → Int32 → Mx → Prop) (Q : Int32 → Mx → Prop) (x1 : Int32) (x4 : Int32) (x5 : Int32) (x6 : Int32) (x7 : Int32) (σ : Mx) : Prop := (6 < x7 → (vp_in x4 67 ∧ (Q x6 (st σ 0 x4.toNatClampNeg x5)))) ∧ (¬ 6 < x7 → (vp_in x4 67 ∧ (pX5_isSo (st σ 0 x4.toNatClampNeg x7) x1 (fun r63 u63 => ((r63 = 0 → (pX5_kinds_77 ih43 Q x1 x4 x5 x7 0 x6 u63)) ∧ (¬ r63 = 0 → (pX5_kinds_77 ih43 Q x1 x4 x5 x7 (1 <<< (x7 &&& 31)) x6 u63)))))))
noncomputable def pX5_kinds_43 (Q : Int32 → Mx → Prop) (n : Nat) : Int32 → Int32 → Int32 → Int32 → Int32 → Mx → Prop := Nat.rec (motive := fun _ => Int32 → Int32 → Int32 → Int32 → Int32 → Mx → Prop) (fun _ _ _ _ _ _ => False) (fun _ ih => pX5_kinds_43s ih Q) n
def pX5_kinds (σ : Mx) (x1 : Int32) (x2 : Int32) (Q : Int32 → Mx → Prop) : Prop := pX5_isPiece σ x2 (fun r4 => (pX5_lacks σ x1 r4 (fun r7 => ((r7 = 0 → (pX5_pieceAt x2 0 (fun r23 => (vp_in r23 67 ∧ (∀ v35 : Int32, v35 = (σ 0 r23.toNatClampNeg) → (∃ n, pX5_kinds_43 Q n x1 r23 v35 0 0 σ)))))) ∧ (¬ r7 = 0 → (pX5_finding σ r7 (fun r17 u17 => (Q r17 u17))))))))
set_option maxHeartbeats 4000000 in
set_option maxRecDepth 100000 in
theorem bX5_kinds_77 {p : Program} {l : Launch} {e : Env} {s : State} {m : MethodId} {args : Array Value} {below : List Frame} {meth : Method} {c : Code} {D : va_G} {κ : Nat → ClassId} {τ : Nat → Nat} {a : Nat → Nat}  {ih43 : Int32 → Int32 → Int32 → Int32 → Int32 → Mx → Prop} {Q : Int32 → Mx → Prop} (Cc : Cx D κ RX5 cX5_kinds 8 (some .int) p s m args meth c) (hIt : Ij a 13)  (hih43 : ∀ (x1 : Int32) (x4 : Int32) (x5 : Int32) (x6 : Int32) (x7 : Int32) (σ : Mx) (H : Heap) (locs : List Loc) (hPt : va_P D classes (wMo κ τ a σ) H) (hS : va_S (cA a 13) s.heap H locs) (ls : Array Slot) (hl : lv_has ls 8 [(0, .ref (a 0)), (1, .int x1), (4, .int x4), (5, .int x5), (6, .int x6), (7, .int x7)]) (h : ih43 x1 x4 x5 x6 x7 σ), W p l e rX5_kinds s m args below meth c H locs 0 0 (MQ below (QWi Q (fun u H => va_P D classes (wMo κ τ a u) H) (cA a 13)) args s 0 0 (cA a 13)) (F0 m 43 ls [])) : ∀ (x1 : Int32) (x4 : Int32) (x5 : Int32) (x7 : Int32) (y0 : Int32) (y1 : Int32) (σ : Mx) (H : Heap) (locs : List Loc) (hPt : va_P D classes (wMo κ τ a σ) H) (hS : va_S (cA a 13) s.heap H locs) (ls : Array Slot) (hl : lv_has ls 8 [(0, .ref (a 0)), (1, .int x1), (4, .int x4), (5, .int x5), (7, .int x7)]) (h : pX5_kinds_77 ih43 Q x1 x4 x5 x7 y0 y1 σ), W p l e rX5_kinds s m args below meth c H locs 0 0 (MQ below (QWi Q (fun u H => va_P D classes (wMo κ τ a u) H) (cA a 13)) args s 0 0 (cA a 13)) (F0 m 77 ls [.int y0, .int y1]) := by
  obtain ⟨hx, hb, hml, hown, hts, hr, hlk, hE⟩ := id Cc
  intro x1 x4 x5 x7 y0 y1 σ H locs hPt hS ls hl h
  unfold pX5_kinds_77 at h
  refine lv_ior hx hb dX5_kinds_77 ?_
  refine lv_topi (fun v78 e78 => ?_)
  have h := h v78 e78
  refine lv_istore (lv' := [(6, .int v78), (0, .ref (a 0)), (1, .int x1), (4, .int x4), (5, .int x5), (7, .int x7)]) hx hb dX5_kinds_78 hl (by decide) rfl (fun ls hl => ?_)
  refine lv_iinc (v := (x7 + 1)) (lv' := [(7, .int (x7 + 1)), (6, .int v78), (0, .ref (a 0)), (1, .int x1), (4, .int x4), (5, .int x5)]) hx hb dX5_kinds_80 hl (k := 5) rfl rfl (by decide) rfl (fun ls hl => ?_)
  refine lv_goto (tgt := 43) hx hb dX5_kinds_83 (by decide) ?_
  exact hih43 x1 x4 x5 v78 (x7 + 1) σ _ _ hPt hS _ (lv_sub hl [2, 3, 4, 5, 1, 0] rfl) h
set_option maxHeartbeats 4000000 in
set_option maxRecDepth 100000 in
theorem bX5_kinds_43 {p : Program} {l : Launch} {e : Env} {s : State} {m : MethodId} {args : Array Value} {below : List Frame} {meth : Method} {c : Code} {D : va_G} {κ : Nat → ClassId} {τ : Nat → Nat} {a : Nat → Nat}   {Q : Int32 → Mx → Prop} (Cc : Cx D κ RX5 cX5_kinds 8 (some .int) p s m args meth c) (hIt : Ij a 13)   (n : Nat) : ∀ (x1 : Int32) (x4 : Int32) (x5 : Int32) (x6 : Int32) (x7 : Int32) (σ : Mx) (H : Heap) (locs : List Loc) (hPt : va_P D classes (wMo κ τ a σ) H) (hS : va_S (cA a 13) s.heap H locs) (ls : Array Slot) (hl : lv_has ls 8 [(0, .ref (a 0)), (1, .int x1), (4, .int x4), (5, .int x5), (6, .int x6), (7, .int x7)]) (h : pX5_kinds_43 Q n x1 x4 x5 x6 x7 σ), W p l e rX5_kinds s m args below meth c H locs 0 0 (MQ below (QWi Q (fun u H => va_P D classes (wMo κ τ a u) H) (cA a 13)) args s 0 0 (cA a 13)) (F0 m 43 ls []) := by
  obtain ⟨hx, hb, hml, hown, hts, hr, hlk, hE⟩ := id Cc
  induction n with
  | zero =>
    intro x1 x4 x5 x6 x7 σ H locs hPt hS ls hl h
    exact absurd h (fun z => z)
  | succ n hih43 =>
    intro x1 x4 x5 x6 x7 σ H locs hPt hS ls hl h
    have h : pX5_kinds_43s (pX5_kinds_43 Q n) Q x1 x4 x5 x6 x7 σ := h
    unfold pX5_kinds_43s at h
    refine lv_iload hx hb dX5_kinds_43 (lv_at hl 5 rfl) ?_
    refine lv_bipush (v := 6) hx hb dX5_kinds_45 (by decide) ?_
    refine lv_icmp_gt (tgt := 86) hx hb dX5_kinds_47 (by decide) (fun c47 => ?_) (fun c47 => ?_)
    · have h := h.1 c47
      refine lv_aload_n hx hb dX5_kinds_86 rfl (lv_at hl 0 rfl) ?_
      refine gMo_0 Cc hPt (tw_761 hts) dX5_kinds_87 ?_
      refine lv_iload hx hb dX5_kinds_90 (lv_at hl 2 rfl) ?_
      refine lv_iload hx hb dX5_kinds_92 (lv_at hl 3 rfl) ?_
      refine sMo_0 Cc hPt hIt hS ⟨1, by decide, rfl⟩ h.1 dX5_kinds_94 (fun H1 locs1 hB hS1 hk => ?_)
      have h := h.2
      have hPt := hB
      have hS := hS1
      refine lv_iload hx hb dX5_kinds_95 (lv_at hl 4 rfl) ?_
      exact W.iret (v := x6) hx hb hr (fun t ht _ => QWi.mk (u := (st σ 0 x4.toNatClampNeg x5)) h hPt hS ht) hS.2.2 dX5_kinds_97 (hlocks := hlk)
    · have h := h.2 c47
      refine lv_aload_n hx hb dX5_kinds_50 rfl (lv_at hl 0 rfl) ?_
      refine gMo_0 Cc hPt (tw_761 hts) dX5_kinds_51 ?_
      refine lv_iload hx hb dX5_kinds_54 (lv_at hl 2 rfl) ?_
      refine lv_iload hx hb dX5_kinds_56 (lv_at hl 5 rfl) ?_
      refine sMo_0 Cc hPt hIt hS ⟨1, by decide, rfl⟩ h.1 dX5_kinds_58 (fun H1 locs1 hB hS1 hk => ?_)
      have h := h.2
      have hPt := hB
      have hS := hS1
      refine lv_iload hx hb dX5_kinds_59 (lv_at hl 4 rfl) ?_
      refine lv_aload_n hx hb dX5_kinds_61 rfl (lv_at hl 0 rfl) ?_
      refine lv_iload_n hx hb dX5_kinds_62 rfl (lv_at hl 1 rfl) ?_
      refine kWi (kV Cc (mX5_isSo l D κ τ a hIt h) (qX5_isSo hts (tw_1089 hts) ⟨(Nat.le_of_ble_eq_true rfl), (Nat.le_of_ble_eq_true rfl)⟩) (va_recv hE.1 hPt (ci := 5) (q0 := 0) rfl rfl) (rest := [.int x6]) hPt rfl hl.1 rfl (Nat.le_of_ble_eq_true rfl) dX5_kinds_63 ⟨Nat.zero_le _, Nat.zero_le _⟩) hS (fun q h9 => h9) (fun r63 u63 H1 locs1 h hB hk hS1 => ?_)
      have hPt := hB
      have hS := hS1
      refine lv_if_eq (tgt := 76) hx hb dX5_kinds_66 (by decide) (fun c66 => ?_) (fun c66 => ?_)
      · have h := h.1 c66
        refine lv_iconst (v := 0) hx hb dX5_kinds_76 (by decide) ?_
        exact bX5_kinds_77 Cc hIt hih43 x1 x4 x5 x7 0 x6 u63 _ _ hPt hS _ (lv_sub hl [0, 1, 2, 3, 5] rfl) h
      · have h := h.2 c66
        refine lv_iconst (v := 1) hx hb dX5_kinds_69 (by decide) ?_
        refine lv_iload hx hb dX5_kinds_70 (lv_at hl 5 rfl) ?_
        refine lv_ishl hx hb dX5_kinds_72 ?_
        refine lv_goto (tgt := 77) hx hb dX5_kinds_73 (by decide) ?_
        exact bX5_kinds_77 Cc hIt hih43 x1 x4 x5 x7 (1 <<< (x7 &&& 31)) x6 u63 _ _ hPt hS _ (lv_sub hl [0, 1, 2, 3, 5] rfl) h
set_option maxHeartbeats 4000000 in
set_option maxRecDepth 100000 in
theorem mX5_kinds (l : Launch) (D : va_G) (κ : Nat → ClassId) (τ : Nat → Nat) (a : Nat → Nat) {σ : Mx} {x1 : Int32} {x2 : Int32} {Q : Int32 → Mx → Prop} (hIt : Ij a 13) (h : pX5_kinds σ x1 x2 Q) : Met l yX5_kinds (wz yX5_kinds cX5_kinds 8 (some .int)) rX5_kinds (va_Pc [.ref (a 0), .int x1, .int x2] (PE D κ (fun H => va_P D classes (wMo κ τ a σ) H))) (QWi Q (fun u H => va_P D classes (wMo κ τ a u) H) (cA a 13)) 0 0 (cA a 13) := by
  refine Met_of l (own := RX5) (by decide) rfl (Nat.le_of_ble_eq_true rfl) (fun p e s m below meth c Cc hPP ls hl => ?_)
  obtain ⟨hx, hb, hml, hown, hts, hr, hlk, hE⟩ := id Cc
  have hl : lv_has ls 8 [(0, .ref (a 0)), (1, .int x1), (2, .int x2)] := hl
  have hPt := hPP
  have hS : va_S (cA a 13) s.heap s.heap [] := va_S.rf
  unfold pX5_kinds at h
  refine lv_aload_n hx hb dX5_kinds_0 rfl (lv_at hl 0 rfl) ?_
  refine lv_iload_n hx hb dX5_kinds_1 rfl (lv_at hl 1 rfl) ?_
  refine lv_aload_n hx hb dX5_kinds_2 rfl (lv_at hl 0 rfl) ?_
  refine lv_iload_n hx hb dX5_kinds_3 rfl (lv_at hl 2 rfl) ?_
  refine kR (kV Cc (mX5_isPiece l D κ τ a h) (qX5_isPiece hts (tw_873 hts) ⟨(Nat.le_of_ble_eq_true rfl), (Nat.le_of_ble_eq_true rfl)⟩) (va_recv hE.1 hPt (ci := 5) (q0 := 0) rfl rfl) (rest := [.int x1, .ref (a 0)]) hPt rfl hl.1 rfl (Nat.le_of_ble_eq_true rfl) dX5_kinds_4 ⟨Nat.zero_le _, Nat.zero_le _⟩) (fun r4 h => ?_)
  refine kR (kV Cc (mX5_lacks l D κ τ a h) (qX5_lacks hts (tw_1081 hts) ⟨(Nat.le_of_ble_eq_true rfl), (Nat.le_of_ble_eq_true rfl)⟩) (va_recv hE.1 hPt (ci := 5) (q0 := 0) rfl rfl) (rest := []) hPt rfl hl.1 rfl (Nat.le_of_ble_eq_true rfl) dX5_kinds_7 ⟨Nat.zero_le _, Nat.zero_le _⟩) (fun r7 h => ?_)
  refine lv_istore_n (lv' := [(3, .int r7), (0, .ref (a 0)), (1, .int x1), (2, .int x2)]) hx hb dX5_kinds_10 rfl hl (by decide) rfl (fun ls hl => ?_)
  refine lv_iload_n hx hb dX5_kinds_11 rfl (lv_at hl 0 rfl) ?_
  refine lv_if_eq (tgt := 21) hx hb dX5_kinds_12 (by decide) (fun c12 => ?_) (fun c12 => ?_)
  · have h := h.1 c12
    refine lv_iload_n hx hb dX5_kinds_21 rfl (lv_at hl 3 rfl) ?_
    refine lv_iconst (v := 0) hx hb dX5_kinds_22 (by decide) ?_
    refine kR (kS Cc (mX5_pieceAt l D κ h) (qX5_pieceAt hts (tw_866 hts) ⟨(Nat.le_of_ble_eq_true rfl), (Nat.le_of_ble_eq_true rfl)⟩) (rest := []) trivial rfl hl.1 rfl (Nat.le_of_ble_eq_true rfl) dX5_kinds_23 ⟨Nat.zero_le _, Nat.zero_le _⟩) (fun r23 h => ?_)
    refine lv_istore (lv' := [(4, .int r23), (3, .int r7), (0, .ref (a 0)), (1, .int x1), (2, .int x2)]) hx hb dX5_kinds_26 hl (by decide) rfl (fun ls hl => ?_)
    refine lv_aload_n hx hb dX5_kinds_28 rfl (lv_at hl 2 rfl) ?_
    refine gMo_0 Cc hPt (tw_761 hts) dX5_kinds_29 ?_
    refine lv_iload hx hb dX5_kinds_32 (lv_at hl 0 rfl) ?_
    refine lMo_0 Cc hPt h.1 dX5_kinds_34 ?_
    have h := h.2
    refine lv_topi (fun v35 e35 => ?_)
    have h := h v35 e35
    refine lv_istore (lv' := [(5, .int v35), (4, .int r23), (3, .int r7), (0, .ref (a 0)), (1, .int x1), (2, .int x2)]) hx hb dX5_kinds_35 hl (by decide) rfl (fun ls hl => ?_)
    refine lv_iconst (v := 0) hx hb dX5_kinds_37 (by decide) ?_
    refine lv_istore (lv' := [(6, .int 0), (5, .int v35), (4, .int r23), (3, .int r7), (0, .ref (a 0)), (1, .int x1), (2, .int x2)]) hx hb dX5_kinds_38 hl (by decide) rfl (fun ls hl => ?_)
    refine lv_iconst (v := 0) hx hb dX5_kinds_40 (by decide) ?_
    refine lv_istore (lv' := [(7, .int 0), (6, .int 0), (5, .int v35), (4, .int r23), (3, .int r7), (0, .ref (a 0)), (1, .int x1), (2, .int x2)]) hx hb dX5_kinds_41 hl (by decide) rfl (fun ls hl => ?_)
    obtain ⟨n, h⟩ := h
    exact bX5_kinds_43 Cc hIt n x1 r23 v35 0 0 σ _ _ hPt hS _ (lv_sub hl [5, 6, 3, 2, 1, 0] rfl) h
  · have h := h.2 c12
    refine lv_aload_n hx hb dX5_kinds_15 rfl (lv_at hl 1 rfl) ?_
    refine lv_iload_n hx hb dX5_kinds_16 rfl (lv_at hl 0 rfl) ?_
    refine kWi (kV Cc (mX5_finding l D κ τ a hIt h) (qX5_finding hts (tw_843 hts) ⟨(Nat.le_of_ble_eq_true rfl), (Nat.le_of_ble_eq_true rfl)⟩) (va_recv hE.1 hPt (ci := 5) (q0 := 0) rfl rfl) (rest := []) hPt rfl hl.1 rfl (Nat.le_of_ble_eq_true rfl) dX5_kinds_17 ⟨Nat.zero_le _, Nat.zero_le _⟩) hS (fun q h9 => h9) (fun r17 u17 H1 locs1 h hB hk hS1 => ?_)
    have hPt := hB
    have hS := hS1
    exact W.iret (v := r17) hx hb hr (fun t ht _ => QWi.mk (u := u17) h hPt hS ht) hS.2.2 dX5_kinds_20 (hlocks := hlk)
theorem qX5_kinds {R : Room} {s : State} {args : Array Value} {own : String} {idx : Nat} (hts : ∀ w ∈ gG, w.before args s = true) (hl : (Cond.methodLink own idx yX5_kinds).before args s = true) (hR : rX5_kinds.frames + 1 ≤ R.frames ∧ 8 + (8 + 11) + rX5_kinds.locals ≤ R.locals) : CallW R s args own RX5 idx yX5_kinds cX5_kinds 8 (some .int) (wz yX5_kinds cX5_kinds 8 (some .int)) rX5_kinds 0 0 2 := ⟨kw 2 hts mw_1096 rfl rfl (tw_75 hts) hl (by decide +kernel) hR, tw_1094 hts, tw_1095 hts⟩
abbrev rX5_drawn : Room := { frames := 0, cells := 0, slots := 0, locals := 0 }
def pX5_drawn (σ : Mx)  (Q : Int32 → Mx → Prop) : Prop := vp_in 2 67 ∧ (vp_in 2 67 ∧ (vp_in 2 67 ∧ (Q ((((st σ 0 (2 : Int32).toNatClampNeg (((σ 0 (2 : Int32).toNatClampNeg) * 1103515245) + 12345)) 0 (2 : Int32).toNatClampNeg).toUInt32 >>> ((8 : Int32).toUInt32 &&& Int32.toUInt32 31)).toInt32) (st σ 0 (2 : Int32).toNatClampNeg (((σ 0 (2 : Int32).toNatClampNeg) * 1103515245) + 12345)))))
set_option maxHeartbeats 4000000 in
set_option maxRecDepth 100000 in
theorem mX5_drawn (l : Launch) (D : va_G) (κ : Nat → ClassId) (τ : Nat → Nat) (a : Nat → Nat) {σ : Mx}  {Q : Int32 → Mx → Prop} (hIt : Ij a 13) (h : pX5_drawn σ  Q) : Met l yX5_drawn (wz yX5_drawn cX5_drawn 1 (some .int)) rX5_drawn (va_Pc [.ref (a 0)] (PE D κ (fun H => va_P D classes (wMo κ τ a σ) H))) (QWi Q (fun u H => va_P D classes (wMo κ τ a u) H) (cA a 13)) 0 0 (cA a 13) := by
  refine Met_of l (own := RX5) (by decide) rfl (Nat.le_of_ble_eq_true rfl) (fun p e s m below meth c Cc hPP ls hl => ?_)
  obtain ⟨hx, hb, hml, hown, hts, hr, hlk, hE⟩ := id Cc
  have hl : lv_has ls 1 [(0, .ref (a 0))] := hl
  have hPt := hPP
  have hS : va_S (cA a 13) s.heap s.heap [] := va_S.rf
  unfold pX5_drawn at h
  refine lv_aload_n hx hb dX5_drawn_0 rfl (lv_at hl 0 rfl) ?_
  refine gMo_0 Cc hPt (tw_761 hts) dX5_drawn_1 ?_
  refine lv_iconst (v := 2) hx hb dX5_drawn_4 (by decide) ?_
  refine lv_aload_n hx hb dX5_drawn_5 rfl (lv_at hl 0 rfl) ?_
  refine gMo_0 Cc hPt (tw_761 hts) dX5_drawn_6 ?_
  refine lv_iconst (v := 2) hx hb dX5_drawn_9 (by decide) ?_
  refine lMo_0 Cc hPt h.1 dX5_drawn_10 ?_
  have h := h.2
  refine lv_ldc (own := RX5) (v := 1103515245) hx hb hown (tw_1105 hts) dX5_drawn_11 ?_
  refine lv_imul hx hb dX5_drawn_13 ?_
  refine lv_sipush (v := 12345) hx hb dX5_drawn_14 (by decide) ?_
  refine lv_iadd hx hb dX5_drawn_17 ?_
  refine sMo_0 Cc hPt hIt hS ⟨1, by decide, rfl⟩ h.1 dX5_drawn_18 (fun H1 locs1 hB hS1 hk => ?_)
  have h := h.2
  have hPt := hB
  have hS := hS1
  refine lv_aload_n hx hb dX5_drawn_19 rfl (lv_at hl 0 rfl) ?_
  refine gMo_0 Cc hPt (tw_761 hts) dX5_drawn_20 ?_
  refine lv_iconst (v := 2) hx hb dX5_drawn_23 (by decide) ?_
  refine lMo_0 Cc hPt h.1 dX5_drawn_24 ?_
  have h := h.2
  refine lv_bipush (v := 8) hx hb dX5_drawn_25 (by decide) ?_
  refine lv_iushr (v := (((st σ 0 (2 : Int32).toNatClampNeg (((σ 0 (2 : Int32).toNatClampNeg) * 1103515245) + 12345)) 0 (2 : Int32).toNatClampNeg).toUInt32 >>> ((8 : Int32).toUInt32 &&& Int32.toUInt32 31)).toInt32) hx hb dX5_drawn_27 rfl ?_
  exact W.iret (v := (((st σ 0 (2 : Int32).toNatClampNeg (((σ 0 (2 : Int32).toNatClampNeg) * 1103515245) + 12345)) 0 (2 : Int32).toNatClampNeg).toUInt32 >>> ((8 : Int32).toUInt32 &&& Int32.toUInt32 31)).toInt32) hx hb hr (fun t ht _ => QWi.mk (u := (st σ 0 (2 : Int32).toNatClampNeg (((σ 0 (2 : Int32).toNatClampNeg) * 1103515245) + 12345))) h hPt hS ht) hS.2.2 dX5_drawn_28 (hlocks := hlk)
theorem qX5_drawn {R : Room} {s : State} {args : Array Value} {own : String} {idx : Nat} (hts : ∀ w ∈ gG, w.before args s = true) (hl : (Cond.methodLink own idx yX5_drawn).before args s = true) (hR : rX5_drawn.frames + 1 ≤ R.frames ∧ 8 + (1 + 11) + rX5_drawn.locals ≤ R.locals) : CallW R s args own RX5 idx yX5_drawn cX5_drawn 1 (some .int) (wz yX5_drawn cX5_drawn 1 (some .int)) rX5_drawn 0 0 0 := ⟨kw 0 hts mw_1104 rfl rfl (tw_75 hts) hl (by decide +kernel) hR, tw_1103 hts, tw_57 hts⟩
abbrev rX5_tip : Room := { frames := 5, cells := 0, slots := 0, locals := 113 }
def pX5_tip_39s  (ih39 : Int32 → Int32 → Mx → Prop) (Q : Int32 → Mx → Prop) (x1 : Int32) (x2 : Int32) (σ : Mx) : Prop := (x1 ≤ x2 → (pX5_sumNow σ (fun r88 => (Q r88 σ)))) ∧ (¬ x1 ≤ x2 → (pX5_drawn σ (fun r45 u45 => (∀ v51 : Int32, v51 = (r45 - r45 / 8 * 8) → (pX5_drawn u45 (fun r53 u53 => (∀ v59 : Int32, v59 = (r53 - r53 / 8 * 8) → (pX5_placeNow u53 (fun r66 => (vp_in r66 67 ∧ (pX5_year (st u53 0 r66.toNatClampNeg ((10 * v51) + v59)) (fun u78 => (ih39 x1 (x2 + 1) u78)))))))))))))
noncomputable def pX5_tip_39 (Q : Int32 → Mx → Prop) (n : Nat) : Int32 → Int32 → Mx → Prop := Nat.rec (motive := fun _ => Int32 → Int32 → Mx → Prop) (fun _ _ _ => False) (fun _ ih => pX5_tip_39s ih Q) n
def pX5_tip (σ : Mx) (x1 : Int32) (Q : Int32 → Mx → Prop) : Prop := pX5_within x1 1 20 (fun r4 => ((¬ r4 = 0 → (vp_in 0 67 ∧ ((((σ 0 (0 : Int32).toNatClampNeg) + x1) ≤ 99999 → (∃ n, pX5_tip_39 Q n x1 0 σ)) ∧ (¬ ((σ 0 (0 : Int32).toNatClampNeg) + x1) ≤ 99999 → (pX5_finding σ (-1000005) (fun r33 u33 => (Q r33 u33))))))) ∧ (r4 = 0 → (pX5_finding σ (-1000001) (fun r13 u13 => (Q r13 u13))))))
set_option maxHeartbeats 4000000 in
set_option maxRecDepth 100000 in
theorem bX5_tip_39 {p : Program} {l : Launch} {e : Env} {s : State} {m : MethodId} {args : Array Value} {below : List Frame} {meth : Method} {c : Code} {D : va_G} {κ : Nat → ClassId} {τ : Nat → Nat} {a : Nat → Nat}   {Q : Int32 → Mx → Prop} (Cc : Cx D κ RX5 cX5_tip 5 (some .int) p s m args meth c) (hIt : Ij a 13)   (n : Nat) : ∀ (x1 : Int32) (x2 : Int32) (σ : Mx) (H : Heap) (locs : List Loc) (hPt : va_P D classes (wMo κ τ a σ) H) (hS : va_S (cA a 13) s.heap H locs) (ls : Array Slot) (hl : lv_has ls 5 [(0, .ref (a 0)), (1, .int x1), (2, .int x2)]) (h : pX5_tip_39 Q n x1 x2 σ), W p l e rX5_tip s m args below meth c H locs 0 0 (MQ below (QWi Q (fun u H => va_P D classes (wMo κ τ a u) H) (cA a 13)) args s 0 0 (cA a 13)) (F0 m 39 ls []) := by
  obtain ⟨hx, hb, hml, hown, hts, hr, hlk, hE⟩ := id Cc
  induction n with
  | zero =>
    intro x1 x2 σ H locs hPt hS ls hl h
    exact absurd h (fun z => z)
  | succ n hih39 =>
    intro x1 x2 σ H locs hPt hS ls hl h
    have h : pX5_tip_39s (pX5_tip_39 Q n) Q x1 x2 σ := h
    unfold pX5_tip_39s at h
    refine lv_iload_n hx hb dX5_tip_39 rfl (lv_at hl 2 rfl) ?_
    refine lv_iload_n hx hb dX5_tip_40 rfl (lv_at hl 1 rfl) ?_
    refine lv_icmp_ge (tgt := 87) hx hb dX5_tip_41 (by decide) (fun c41 => ?_) (fun c41 => ?_)
    · have h := h.1 c41
      refine lv_aload_n hx hb dX5_tip_87 rfl (lv_at hl 0 rfl) ?_
      refine kR (kV Cc (mX5_sumNow l D κ τ a h) (qX5_sumNow hts (tw_937 hts) ⟨(Nat.le_of_ble_eq_true rfl), (Nat.le_of_ble_eq_true rfl)⟩) (va_recv hE.1 hPt (ci := 5) (q0 := 0) rfl rfl) (rest := []) hPt rfl hl.1 rfl (Nat.le_of_ble_eq_true rfl) dX5_tip_88 ⟨Nat.zero_le _, Nat.zero_le _⟩) (fun r88 h => ?_)
      exact W.iret (v := r88) hx hb hr (fun t ht _ => QWi.mk (u := σ) h hPt hS ht) hS.2.2 dX5_tip_91 (hlocks := hlk)
    · have h := h.2 c41
      refine lv_aload_n hx hb dX5_tip_44 rfl (lv_at hl 0 rfl) ?_
      refine kWi (kV Cc (mX5_drawn l D κ τ a hIt h) (qX5_drawn hts (tw_1101 hts) ⟨(Nat.le_of_ble_eq_true rfl), (Nat.le_of_ble_eq_true rfl)⟩) (va_recv hE.1 hPt (ci := 5) (q0 := 0) rfl rfl) (rest := []) hPt rfl hl.1 rfl (Nat.le_of_ble_eq_true rfl) dX5_tip_45 ⟨Nat.zero_le _, Nat.zero_le _⟩) hS (fun q h9 => h9) (fun r45 u45 H1 locs1 h hB hk hS1 => ?_)
      have hPt := hB
      have hS := hS1
      refine lv_bipush (v := 8) hx hb dX5_tip_48 (by decide) ?_
      refine lv_irem hx hb dX5_tip_50 (by decide) ?_
      refine lv_topi (fun v51 e51 => ?_)
      have h := h v51 e51
      refine lv_istore_n (lv' := [(3, .int v51), (0, .ref (a 0)), (1, .int x1), (2, .int x2)]) hx hb dX5_tip_51 rfl hl (by decide) rfl (fun ls hl => ?_)
      refine lv_aload_n hx hb dX5_tip_52 rfl (lv_at hl 1 rfl) ?_
      refine kWi (kV Cc (mX5_drawn l D κ τ a hIt h) (qX5_drawn hts (tw_1101 hts) ⟨(Nat.le_of_ble_eq_true rfl), (Nat.le_of_ble_eq_true rfl)⟩) (va_recv hE.1 hPt (ci := 5) (q0 := 0) rfl rfl) (rest := []) hPt rfl hl.1 rfl (Nat.le_of_ble_eq_true rfl) dX5_tip_53 ⟨Nat.zero_le _, Nat.zero_le _⟩) hS (fun q h9 => h9) (fun r53 u53 H1 locs1 h hB hk hS1 => ?_)
      have hPt := hB
      have hS := hS1
      refine lv_bipush (v := 8) hx hb dX5_tip_56 (by decide) ?_
      refine lv_irem hx hb dX5_tip_58 (by decide) ?_
      refine lv_topi (fun v59 e59 => ?_)
      have h := h v59 e59
      refine lv_istore (lv' := [(4, .int v59), (3, .int v51), (0, .ref (a 0)), (1, .int x1), (2, .int x2)]) hx hb dX5_tip_59 hl (by decide) rfl (fun ls hl => ?_)
      refine lv_aload_n hx hb dX5_tip_61 rfl (lv_at hl 2 rfl) ?_
      refine gMo_0 Cc hPt (tw_761 hts) dX5_tip_62 ?_
      refine lv_aload_n hx hb dX5_tip_65 rfl (lv_at hl 2 rfl) ?_
      refine kR (kV Cc (mX5_placeNow l D κ τ a h) (qX5_placeNow hts (tw_955 hts) ⟨(Nat.le_of_ble_eq_true rfl), (Nat.le_of_ble_eq_true rfl)⟩) (va_recv hE.1 hPt (ci := 5) (q0 := 0) rfl rfl) (rest := [.ref (a 1)]) hPt rfl hl.1 rfl (Nat.le_of_ble_eq_true rfl) dX5_tip_66 ⟨Nat.zero_le _, Nat.zero_le _⟩) (fun r66 h => ?_)
      refine lv_bipush (v := 10) hx hb dX5_tip_69 (by decide) ?_
      refine lv_iload_n hx hb dX5_tip_71 rfl (lv_at hl 1 rfl) ?_
      refine lv_imul hx hb dX5_tip_72 ?_
      refine lv_iload hx hb dX5_tip_73 (lv_at hl 0 rfl) ?_
      refine lv_iadd hx hb dX5_tip_75 ?_
      refine sMo_0 Cc hPt hIt hS ⟨1, by decide, rfl⟩ h.1 dX5_tip_76 (fun H1 locs1 hB hS1 hk => ?_)
      have h := h.2
      have hPt := hB
      have hS := hS1
      refine lv_aload_n hx hb dX5_tip_77 rfl (lv_at hl 2 rfl) ?_
      refine kWv (kV Cc (mX5_year l D κ τ a hIt h) (qX5_year hts (tw_951 hts) ⟨(Nat.le_of_ble_eq_true rfl), (Nat.le_of_ble_eq_true rfl)⟩) (va_recv hE.1 hPt (ci := 5) (q0 := 0) rfl rfl) (rest := []) hPt rfl hl.1 rfl (Nat.le_of_ble_eq_true rfl) dX5_tip_78 ⟨Nat.zero_le _, Nat.zero_le _⟩) hS (fun q h9 => h9) (fun  u78 H1 locs1 h hB hk hS1 => ?_)
      have hPt := hB
      have hS := hS1
      refine lv_iinc (v := (x2 + 1)) (lv' := [(2, .int (x2 + 1)), (4, .int v59), (3, .int v51), (0, .ref (a 0)), (1, .int x1)]) hx hb dX5_tip_81 hl (k := 4) rfl rfl (by decide) rfl (fun ls hl => ?_)
      refine lv_goto (tgt := 39) hx hb dX5_tip_84 (by decide) ?_
      exact hih39 x1 (x2 + 1) u78 _ _ hPt hS _ (lv_sub hl [3, 4, 0] rfl) h
set_option maxHeartbeats 4000000 in
set_option maxRecDepth 100000 in
theorem mX5_tip (l : Launch) (D : va_G) (κ : Nat → ClassId) (τ : Nat → Nat) (a : Nat → Nat) {σ : Mx} {x1 : Int32} {Q : Int32 → Mx → Prop} (hIt : Ij a 13) (h : pX5_tip σ x1 Q) : Met l yX5_tip (wz yX5_tip cX5_tip 5 (some .int)) rX5_tip (va_Pc [.ref (a 0), .int x1] (PE D κ (fun H => va_P D classes (wMo κ τ a σ) H))) (QWi Q (fun u H => va_P D classes (wMo κ τ a u) H) (cA a 13)) 0 0 (cA a 13) := by
  refine Met_of l (own := RX5) (by decide) rfl (Nat.le_of_ble_eq_true rfl) (fun p e s m below meth c Cc hPP ls hl => ?_)
  obtain ⟨hx, hb, hml, hown, hts, hr, hlk, hE⟩ := id Cc
  have hl : lv_has ls 5 [(0, .ref (a 0)), (1, .int x1)] := hl
  have hPt := hPP
  have hS : va_S (cA a 13) s.heap s.heap [] := va_S.rf
  unfold pX5_tip at h
  refine lv_iload_n hx hb dX5_tip_0 rfl (lv_at hl 1 rfl) ?_
  refine lv_iconst (v := 1) hx hb dX5_tip_1 (by decide) ?_
  refine lv_bipush (v := 20) hx hb dX5_tip_2 (by decide) ?_
  refine kR (kS Cc (mX5_within l D κ h) (qX5_within hts (tw_832 hts) ⟨(Nat.le_of_ble_eq_true rfl), (Nat.le_of_ble_eq_true rfl)⟩) (rest := []) trivial rfl hl.1 rfl (Nat.le_of_ble_eq_true rfl) dX5_tip_4 ⟨Nat.zero_le _, Nat.zero_le _⟩) (fun r4 h => ?_)
  refine lv_if_ne (tgt := 17) hx hb dX5_tip_7 (by decide) (fun c7 => ?_) (fun c7 => ?_)
  · have h := h.1 c7
    refine lv_aload_n hx hb dX5_tip_17 rfl (lv_at hl 0 rfl) ?_
    refine gMo_0 Cc hPt (tw_761 hts) dX5_tip_18 ?_
    refine lv_iconst (v := 0) hx hb dX5_tip_21 (by decide) ?_
    refine lMo_0 Cc hPt h.1 dX5_tip_22 ?_
    have h := h.2
    refine lv_iload_n hx hb dX5_tip_23 rfl (lv_at hl 1 rfl) ?_
    refine lv_iadd hx hb dX5_tip_24 ?_
    refine lv_ldc (own := RX5) (v := 99999) hx hb hown (tw_945 hts) dX5_tip_25 ?_
    refine lv_icmp_le (tgt := 37) hx hb dX5_tip_27 (by decide) (fun c27 => ?_) (fun c27 => ?_)
    · have h := h.1 c27
      refine lv_iconst (v := 0) hx hb dX5_tip_37 (by decide) ?_
      refine lv_istore_n (lv' := [(2, .int 0), (0, .ref (a 0)), (1, .int x1)]) hx hb dX5_tip_38 rfl hl (by decide) rfl (fun ls hl => ?_)
      obtain ⟨n, h⟩ := h
      exact bX5_tip_39 Cc hIt n x1 0 σ _ _ hPt hS _ (lv_sub hl [1, 2, 0] rfl) h
    · have h := h.2 c27
      refine lv_aload_n hx hb dX5_tip_30 rfl (lv_at hl 0 rfl) ?_
      refine lv_ldc (own := RX5) (v := (-1000005)) hx hb hown (tw_946 hts) dX5_tip_31 ?_
      refine kWi (kV Cc (mX5_finding l D κ τ a hIt h) (qX5_finding hts (tw_843 hts) ⟨(Nat.le_of_ble_eq_true rfl), (Nat.le_of_ble_eq_true rfl)⟩) (va_recv hE.1 hPt (ci := 5) (q0 := 0) rfl rfl) (rest := []) hPt rfl hl.1 rfl (Nat.le_of_ble_eq_true rfl) dX5_tip_33 ⟨Nat.zero_le _, Nat.zero_le _⟩) hS (fun q h9 => h9) (fun r33 u33 H1 locs1 h hB hk hS1 => ?_)
      have hPt := hB
      have hS := hS1
      exact W.iret (v := r33) hx hb hr (fun t ht _ => QWi.mk (u := u33) h hPt hS ht) hS.2.2 dX5_tip_36 (hlocks := hlk)
  · have h := h.2 c7
    refine lv_aload_n hx hb dX5_tip_10 rfl (lv_at hl 0 rfl) ?_
    refine lv_ldc (own := RX5) (v := (-1000001)) hx hb hown (tw_842 hts) dX5_tip_11 ?_
    refine kWi (kV Cc (mX5_finding l D κ τ a hIt h) (qX5_finding hts (tw_843 hts) ⟨(Nat.le_of_ble_eq_true rfl), (Nat.le_of_ble_eq_true rfl)⟩) (va_recv hE.1 hPt (ci := 5) (q0 := 0) rfl rfl) (rest := []) hPt rfl hl.1 rfl (Nat.le_of_ble_eq_true rfl) dX5_tip_13 ⟨Nat.zero_le _, Nat.zero_le _⟩) hS (fun q h9 => h9) (fun r13 u13 H1 locs1 h hB hk hS1 => ?_)
    have hPt := hB
    have hS := hS1
    exact W.iret (v := r13) hx hb hr (fun t ht _ => QWi.mk (u := u13) h hPt hS ht) hS.2.2 dX5_tip_16 (hlocks := hlk)
theorem qX5_tip {R : Room} {s : State} {args : Array Value} {own : String} {idx : Nat} (hts : ∀ w ∈ gG, w.before args s = true) (hl : (Cond.methodLink own idx yX5_tip).before args s = true) (hR : rX5_tip.frames + 1 ≤ R.frames ∧ 8 + (5 + 11) + rX5_tip.locals ≤ R.locals) : CallW R s args own RX5 idx yX5_tip cX5_tip 5 (some .int) (wz yX5_tip cX5_tip 5 (some .int)) rX5_tip 0 0 1 := ⟨kw 1 hts mw_1100 rfl rfl (tw_75 hts) hl (by decide +kernel) hR, tw_1098 hts, tw_1099 hts⟩
abbrev rX5_isNoWorse : Room := { frames := 5, cells := 0, slots := 0, locals := 113 }
def pX5_isNoWorse_16 (Q : Int32 → Mx → Prop) (σ : Mx) : Prop := Q 1 σ
def pX5_isNoWorse_42 (Q : Int32 → Mx → Prop) (x1 : Int32) (x2 : Int32) (y0 : Int32) (σ : Mx) : Prop := pX5_exchange σ x1 x2 (fun u47 => ((y0 = 0 ∨ y0 = 1) ∧ (Q y0 u47)))
def pX5_isNoWorse (σ : Mx) (x1 : Int32) (x2 : Int32) (Q : Int32 → Mx → Prop) : Prop := pX5_isPiece σ x1 (fun r2 => ((r2 = 0 → (pX5_isNoWorse_16 Q σ)) ∧ (¬ r2 = 0 → (pX5_isPiece σ x2 (fun r10 => ((¬ r10 = 0 → (pX5_sumNow σ (fun r19 => (pX5_exchange σ x1 x2 (fun u26 => (pX5_sumNow u26 (fun r30 => ((r19 < r30 → (pX5_isNoWorse_42 Q x1 x2 0 u26)) ∧ (¬ r19 < r30 → (pX5_isNoWorse_42 Q x1 x2 1 u26)))))))))) ∧ (r10 = 0 → (pX5_isNoWorse_16 Q σ))))))))
set_option maxHeartbeats 4000000 in
set_option maxRecDepth 100000 in
theorem bX5_isNoWorse_16 {p : Program} {l : Launch} {e : Env} {s : State} {m : MethodId} {args : Array Value} {below : List Frame} {meth : Method} {c : Code} {D : va_G} {κ : Nat → ClassId} {τ : Nat → Nat} {a : Nat → Nat}   {Q : Int32 → Mx → Prop} (Cc : Cx D κ RX5 cX5_isNoWorse 5 (some .boolean) p s m args meth c) (hIt : Ij a 13)   : ∀ (σ : Mx) (H : Heap) (locs : List Loc) (hPt : va_P D classes (wMo κ τ a σ) H) (hS : va_S (cA a 13) s.heap H locs) (ls : Array Slot) (hl : lv_has ls 5 []) (h : pX5_isNoWorse_16 Q σ), W p l e rX5_isNoWorse s m args below meth c H locs 0 0 (MQ below (QWi Q (fun u H => va_P D classes (wMo κ τ a u) H) (cA a 13)) args s 0 0 (cA a 13)) (F0 m 16 ls []) := by
  obtain ⟨hx, hb, hml, hown, hts, hr, hlk, hE⟩ := id Cc
  intro σ H locs hPt hS ls hl h
  unfold pX5_isNoWorse_16 at h
  refine lv_iconst (v := 1) hx hb dX5_isNoWorse_16 (by decide) ?_
  exact W.zret (v := 1) (ty := .boolean) hx hb hr rfl (fun t ht _ => QWi.mk (u := σ) h hPt hS ht) hS.2.2 dX5_isNoWorse_17 (hlocks := hlk)
set_option maxHeartbeats 4000000 in
set_option maxRecDepth 100000 in
theorem bX5_isNoWorse_42 {p : Program} {l : Launch} {e : Env} {s : State} {m : MethodId} {args : Array Value} {below : List Frame} {meth : Method} {c : Code} {D : va_G} {κ : Nat → ClassId} {τ : Nat → Nat} {a : Nat → Nat}   {Q : Int32 → Mx → Prop} (Cc : Cx D κ RX5 cX5_isNoWorse 5 (some .boolean) p s m args meth c) (hIt : Ij a 13)   : ∀ (x1 : Int32) (x2 : Int32) (y0 : Int32) (σ : Mx) (H : Heap) (locs : List Loc) (hPt : va_P D classes (wMo κ τ a σ) H) (hS : va_S (cA a 13) s.heap H locs) (ls : Array Slot) (hl : lv_has ls 5 [(0, .ref (a 0)), (1, .int x1), (2, .int x2)]) (h : pX5_isNoWorse_42 Q x1 x2 y0 σ), W p l e rX5_isNoWorse s m args below meth c H locs 0 0 (MQ below (QWi Q (fun u H => va_P D classes (wMo κ τ a u) H) (cA a 13)) args s 0 0 (cA a 13)) (F0 m 42 ls [.int y0]) := by
  obtain ⟨hx, hb, hml, hown, hts, hr, hlk, hE⟩ := id Cc
  intro x1 x2 y0 σ H locs hPt hS ls hl h
  unfold pX5_isNoWorse_42 at h
  refine lv_istore (lv' := [(4, .int y0), (0, .ref (a 0)), (1, .int x1), (2, .int x2)]) hx hb dX5_isNoWorse_42 hl (by decide) rfl (fun ls hl => ?_)
  refine lv_aload_n hx hb dX5_isNoWorse_44 rfl (lv_at hl 1 rfl) ?_
  refine lv_iload_n hx hb dX5_isNoWorse_45 rfl (lv_at hl 2 rfl) ?_
  refine lv_iload_n hx hb dX5_isNoWorse_46 rfl (lv_at hl 3 rfl) ?_
  refine kWv (kV Cc (mX5_exchange l D κ τ a hIt h) (qX5_exchange hts (tw_933 hts) ⟨(Nat.le_of_ble_eq_true rfl), (Nat.le_of_ble_eq_true rfl)⟩) (va_recv hE.1 hPt (ci := 5) (q0 := 0) rfl rfl) (rest := []) hPt rfl hl.1 rfl (Nat.le_of_ble_eq_true rfl) dX5_isNoWorse_47 ⟨Nat.zero_le _, Nat.zero_le _⟩) hS (fun q h9 => h9) (fun  u47 H1 locs1 h hB hk hS1 => ?_)
  have hPt := hB
  have hS := hS1
  refine lv_iload hx hb dX5_isNoWorse_50 (lv_at hl 0 rfl) ?_
  exact W.zret (v := y0) (ty := .boolean) hx hb hr (bool_nar h.1) (fun t ht _ => QWi.mk (u := u47) h.2 hPt hS ht) hS.2.2 dX5_isNoWorse_52 (hlocks := hlk)
set_option maxHeartbeats 4000000 in
set_option maxRecDepth 100000 in
theorem mX5_isNoWorse (l : Launch) (D : va_G) (κ : Nat → ClassId) (τ : Nat → Nat) (a : Nat → Nat) {σ : Mx} {x1 : Int32} {x2 : Int32} {Q : Int32 → Mx → Prop} (hIt : Ij a 13) (h : pX5_isNoWorse σ x1 x2 Q) : Met l yX5_isNoWorse (wz yX5_isNoWorse cX5_isNoWorse 5 (some .boolean)) rX5_isNoWorse (va_Pc [.ref (a 0), .int x1, .int x2] (PE D κ (fun H => va_P D classes (wMo κ τ a σ) H))) (QWi Q (fun u H => va_P D classes (wMo κ τ a u) H) (cA a 13)) 0 0 (cA a 13) := by
  refine Met_of l (own := RX5) (by decide) rfl (Nat.le_of_ble_eq_true rfl) (fun p e s m below meth c Cc hPP ls hl => ?_)
  obtain ⟨hx, hb, hml, hown, hts, hr, hlk, hE⟩ := id Cc
  have hl : lv_has ls 5 [(0, .ref (a 0)), (1, .int x1), (2, .int x2)] := hl
  have hPt := hPP
  have hS : va_S (cA a 13) s.heap s.heap [] := va_S.rf
  unfold pX5_isNoWorse at h
  refine lv_aload_n hx hb dX5_isNoWorse_0 rfl (lv_at hl 0 rfl) ?_
  refine lv_iload_n hx hb dX5_isNoWorse_1 rfl (lv_at hl 1 rfl) ?_
  refine kR (kV Cc (mX5_isPiece l D κ τ a h) (qX5_isPiece hts (tw_873 hts) ⟨(Nat.le_of_ble_eq_true rfl), (Nat.le_of_ble_eq_true rfl)⟩) (va_recv hE.1 hPt (ci := 5) (q0 := 0) rfl rfl) (rest := []) hPt rfl hl.1 rfl (Nat.le_of_ble_eq_true rfl) dX5_isNoWorse_2 ⟨Nat.zero_le _, Nat.zero_le _⟩) (fun r2 h => ?_)
  refine lv_if_eq (tgt := 16) hx hb dX5_isNoWorse_5 (by decide) (fun c5 => ?_) (fun c5 => ?_)
  · have h := h.1 c5
    exact bX5_isNoWorse_16 Cc hIt σ _ _ hPt hS _ (lv_sub hl [] rfl) h
  · have h := h.2 c5
    refine lv_aload_n hx hb dX5_isNoWorse_8 rfl (lv_at hl 0 rfl) ?_
    refine lv_iload_n hx hb dX5_isNoWorse_9 rfl (lv_at hl 2 rfl) ?_
    refine kR (kV Cc (mX5_isPiece l D κ τ a h) (qX5_isPiece hts (tw_873 hts) ⟨(Nat.le_of_ble_eq_true rfl), (Nat.le_of_ble_eq_true rfl)⟩) (va_recv hE.1 hPt (ci := 5) (q0 := 0) rfl rfl) (rest := []) hPt rfl hl.1 rfl (Nat.le_of_ble_eq_true rfl) dX5_isNoWorse_10 ⟨Nat.zero_le _, Nat.zero_le _⟩) (fun r10 h => ?_)
    refine lv_if_ne (tgt := 18) hx hb dX5_isNoWorse_13 (by decide) (fun c13 => ?_) (fun c13 => ?_)
    · have h := h.1 c13
      refine lv_aload_n hx hb dX5_isNoWorse_18 rfl (lv_at hl 0 rfl) ?_
      refine kR (kV Cc (mX5_sumNow l D κ τ a h) (qX5_sumNow hts (tw_937 hts) ⟨(Nat.le_of_ble_eq_true rfl), (Nat.le_of_ble_eq_true rfl)⟩) (va_recv hE.1 hPt (ci := 5) (q0 := 0) rfl rfl) (rest := []) hPt rfl hl.1 rfl (Nat.le_of_ble_eq_true rfl) dX5_isNoWorse_19 ⟨Nat.zero_le _, Nat.zero_le _⟩) (fun r19 h => ?_)
      refine lv_istore_n (lv' := [(3, .int r19), (0, .ref (a 0)), (1, .int x1), (2, .int x2)]) hx hb dX5_isNoWorse_22 rfl hl (by decide) rfl (fun ls hl => ?_)
      refine lv_aload_n hx hb dX5_isNoWorse_23 rfl (lv_at hl 1 rfl) ?_
      refine lv_iload_n hx hb dX5_isNoWorse_24 rfl (lv_at hl 2 rfl) ?_
      refine lv_iload_n hx hb dX5_isNoWorse_25 rfl (lv_at hl 3 rfl) ?_
      refine kWv (kV Cc (mX5_exchange l D κ τ a hIt h) (qX5_exchange hts (tw_933 hts) ⟨(Nat.le_of_ble_eq_true rfl), (Nat.le_of_ble_eq_true rfl)⟩) (va_recv hE.1 hPt (ci := 5) (q0 := 0) rfl rfl) (rest := []) hPt rfl hl.1 rfl (Nat.le_of_ble_eq_true rfl) dX5_isNoWorse_26 ⟨Nat.zero_le _, Nat.zero_le _⟩) hS (fun q h9 => h9) (fun  u26 H1 locs1 h hB hk hS1 => ?_)
      have hPt := hB
      have hS := hS1
      refine lv_aload_n hx hb dX5_isNoWorse_29 rfl (lv_at hl 1 rfl) ?_
      refine kR (kV Cc (mX5_sumNow l D κ τ a h) (qX5_sumNow hts (tw_937 hts) ⟨(Nat.le_of_ble_eq_true rfl), (Nat.le_of_ble_eq_true rfl)⟩) (va_recv hE.1 hPt (ci := 5) (q0 := 0) rfl rfl) (rest := []) hPt rfl hl.1 rfl (Nat.le_of_ble_eq_true rfl) dX5_isNoWorse_30 ⟨Nat.zero_le _, Nat.zero_le _⟩) (fun r30 h => ?_)
      refine lv_iload_n hx hb dX5_isNoWorse_33 rfl (lv_at hl 0 rfl) ?_
      refine lv_icmp_gt (tgt := 41) hx hb dX5_isNoWorse_34 (by decide) (fun c34 => ?_) (fun c34 => ?_)
      · have h := h.1 c34
        refine lv_iconst (v := 0) hx hb dX5_isNoWorse_41 (by decide) ?_
        exact bX5_isNoWorse_42 Cc hIt x1 x2 0 u26 _ _ hPt hS _ (lv_sub hl [1, 2, 3] rfl) h
      · have h := h.2 c34
        refine lv_iconst (v := 1) hx hb dX5_isNoWorse_37 (by decide) ?_
        refine lv_goto (tgt := 42) hx hb dX5_isNoWorse_38 (by decide) ?_
        exact bX5_isNoWorse_42 Cc hIt x1 x2 1 u26 _ _ hPt hS _ (lv_sub hl [1, 2, 3] rfl) h
    · have h := h.2 c13
      exact bX5_isNoWorse_16 Cc hIt σ _ _ hPt hS _ (lv_sub hl [] rfl) h
theorem qX5_isNoWorse {R : Room} {s : State} {args : Array Value} {own : String} {idx : Nat} (hts : ∀ w ∈ gG, w.before args s = true) (hl : (Cond.methodLink own idx yX5_isNoWorse).before args s = true) (hR : rX5_isNoWorse.frames + 1 ≤ R.frames ∧ 8 + (5 + 11) + rX5_isNoWorse.locals ≤ R.locals) : CallW R s args own RX5 idx yX5_isNoWorse cX5_isNoWorse 5 (some .boolean) (wz yX5_isNoWorse cX5_isNoWorse 5 (some .boolean)) rX5_isNoWorse 0 0 2 := ⟨kw 2 hts mw_1113 rfl rfl (tw_75 hts) hl (by decide +kernel) hR, tw_1112 hts, tw_58 hts⟩
abbrev rX5_odds : Room := { frames := 6, cells := 0, slots := 0, locals := 137 }
def pX5_odds_19 (Q : Int64 → Mx → Prop) (σ : Mx) : Prop := pX5_finding σ (-1000001) (fun r22 u22 => (Q r22.toInt64 u22))
def pX5_odds_66 (ih36 : Int32 → Int32 → Int32 → Int32 → Int32 → Mx → Prop) (Q : Int64 → Mx → Prop) (x1 : Int32) (x2 : Int32) (x3 : Int32) (x5 : Int32) (y0 : Int32) (y1 : Int32) (σ : Mx) : Prop := ∀ v67 : Int32, v67 = (y1 + y0) → (ih36 x1 x2 x3 v67 (x5 + 1) σ)
def pX5_odds_129 (ih111 : Int32 → Int32 → Int32 → Int32 → Int32 → Int64 → Int32 → Mx → Prop) (Q : Int64 → Mx → Prop) (x1 : Int32) (x2 : Int32) (x3 : Int32) (x4 : Int32) (x5 : Int32) (x9 : Int32) (y0 : Int32) (y1 : Int64) (σ : Mx) : Prop := ¬ x5 = 0 ∧ (∀ v134 : Int64, v134 = (y1 * ((y0 / x5).toInt64)) → (ih111 x1 x2 x3 x4 x5 v134 (x9 + 1) σ))
def pX5_odds_111s  (ih111 : Int32 → Int32 → Int32 → Int32 → Int32 → Int64 → Int32 → Mx → Prop) (Q : Int64 → Mx → Prop) (x1 : Int32) (x2 : Int32) (x3 : Int32) (x4 : Int32) (x5 : Int32) (x7 : Int64) (x9 : Int32) (σ : Mx) : Prop := (x1 ≤ x9 → (Q x7 σ)) ∧ (¬ x1 ≤ x9 → ((¬ x2 = 0 → (pX5_odds_129 ih111 Q x1 x2 x3 x4 x5 x9 x3 x7 σ)) ∧ (x2 = 0 → (pX5_odds_129 ih111 Q x1 x2 x3 x4 x5 x9 x4 x7 σ))))
noncomputable def pX5_odds_111 (Q : Int64 → Mx → Prop) (n : Nat) : Int32 → Int32 → Int32 → Int32 → Int32 → Int64 → Int32 → Mx → Prop := Nat.rec (motive := fun _ => Int32 → Int32 → Int32 → Int32 → Int32 → Int64 → Int32 → Mx → Prop) (fun _ _ _ _ _ _ _ _ => False) (fun _ ih => pX5_odds_111s ih Q) n
def pX5_odds_82s  (ih82 : Int32 → Int32 → Int32 → Int32 → Int32 → Int32 → Mx → Prop) (Q : Int64 → Mx → Prop) (x1 : Int32) (x2 : Int32) (x3 : Int32) (x4 : Int32) (x5 : Int32) (x6 : Int32) (σ : Mx) : Prop := (x6 = 0 → (∃ n, pX5_odds_111 Q n x1 x2 x3 x4 x5 1 0 σ)) ∧ (¬ x6 = 0 → (¬ x6 = 0 ∧ (∀ v92 : Int32, v92 = (x5 - x5 / x6 * x6) → (ih82 x1 x2 x3 x4 x6 v92 σ))))
noncomputable def pX5_odds_82 (Q : Int64 → Mx → Prop) (n : Nat) : Int32 → Int32 → Int32 → Int32 → Int32 → Int32 → Mx → Prop := Nat.rec (motive := fun _ => Int32 → Int32 → Int32 → Int32 → Int32 → Int32 → Mx → Prop) (fun _ _ _ _ _ _ _ => False) (fun _ ih => pX5_odds_82s ih Q) n
def pX5_odds_36s  (ih36 : Int32 → Int32 → Int32 → Int32 → Int32 → Mx → Prop) (Q : Int64 → Mx → Prop) (x1 : Int32) (x2 : Int32) (x3 : Int32) (x4 : Int32) (x5 : Int32) (σ : Mx) : Prop := (x3 ≤ x5 → (∃ n, pX5_odds_82 Q n x1 x2 x3 x4 x3 x4 σ)) ∧ (¬ x3 ≤ x5 → (pX5_isNoWorse σ (x5 / 8) (x5 - x5 / 8 * 8) (fun r55 u55 => ((r55 = 0 → (pX5_odds_66 ih36 Q x1 x2 x3 x5 0 x4 u55)) ∧ (¬ r55 = 0 → (pX5_odds_66 ih36 Q x1 x2 x3 x5 1 x4 u55))))))
noncomputable def pX5_odds_36 (Q : Int64 → Mx → Prop) (n : Nat) : Int32 → Int32 → Int32 → Int32 → Int32 → Mx → Prop := Nat.rec (motive := fun _ => Int32 → Int32 → Int32 → Int32 → Int32 → Mx → Prop) (fun _ _ _ _ _ _ => False) (fun _ ih => pX5_odds_36s ih Q) n
def pX5_odds (σ : Mx) (x1 : Int32) (x2 : Int32) (Q : Int64 → Mx → Prop) : Prop := pX5_within x1 0 10 (fun r4 => ((r4 = 0 → (pX5_odds_19 Q σ)) ∧ (¬ r4 = 0 → (pX5_within x2 0 1 (fun r13 => ((¬ r13 = 0 → (∃ n, pX5_odds_36 Q n x1 x2 64 0 0 σ)) ∧ (r13 = 0 → (pX5_odds_19 Q σ))))))))
set_option maxHeartbeats 4000000 in
set_option maxRecDepth 100000 in
theorem bX5_odds_19 {p : Program} {l : Launch} {e : Env} {s : State} {m : MethodId} {args : Array Value} {below : List Frame} {meth : Method} {c : Code} {D : va_G} {κ : Nat → ClassId} {τ : Nat → Nat} {a : Nat → Nat}   {Q : Int64 → Mx → Prop} (Cc : Cx D κ RX5 cX5_odds 10 (some .long) p s m args meth c) (hIt : Ij a 13)   : ∀ (σ : Mx) (H : Heap) (locs : List Loc) (hPt : va_P D classes (wMo κ τ a σ) H) (hS : va_S (cA a 13) s.heap H locs) (ls : Array Slot) (hl : lv_has ls 10 [(0, .ref (a 0))]) (h : pX5_odds_19 Q σ), W p l e rX5_odds s m args below meth c H locs 0 0 (MQ below (QWl Q (fun u H => va_P D classes (wMo κ τ a u) H) (cA a 13)) args s 0 0 (cA a 13)) (F0 m 19 ls []) := by
  obtain ⟨hx, hb, hml, hown, hts, hr, hlk, hE⟩ := id Cc
  intro σ H locs hPt hS ls hl h
  unfold pX5_odds_19 at h
  refine lv_aload_n hx hb dX5_odds_19 rfl (lv_at hl 0 rfl) ?_
  refine lv_ldc (own := RX5) (v := (-1000001)) hx hb hown (tw_842 hts) dX5_odds_20 ?_
  refine kWi (kV Cc (mX5_finding l D κ τ a hIt h) (qX5_finding hts (tw_843 hts) ⟨(Nat.le_of_ble_eq_true rfl), (Nat.le_of_ble_eq_true rfl)⟩) (va_recv hE.1 hPt (ci := 5) (q0 := 0) rfl rfl) (rest := []) hPt rfl hl.1 rfl (Nat.le_of_ble_eq_true rfl) dX5_odds_22 ⟨Nat.zero_le _, Nat.zero_le _⟩) hS (fun q h9 => h9) (fun r22 u22 H1 locs1 h hB hk hS1 => ?_)
  have hPt := hB
  have hS := hS1
  refine lv_i2l (v := r22.toInt64) hx hb dX5_odds_25 rfl ?_
  exact W.lret (v := r22.toInt64) hx hb hr (fun t ht _ => QWl.mk (u := u22) h hPt hS ht) hS.2.2 dX5_odds_26 (hlocks := hlk)
set_option maxHeartbeats 4000000 in
set_option maxRecDepth 100000 in
theorem bX5_odds_66 {p : Program} {l : Launch} {e : Env} {s : State} {m : MethodId} {args : Array Value} {below : List Frame} {meth : Method} {c : Code} {D : va_G} {κ : Nat → ClassId} {τ : Nat → Nat} {a : Nat → Nat}  {ih36 : Int32 → Int32 → Int32 → Int32 → Int32 → Mx → Prop} {Q : Int64 → Mx → Prop} (Cc : Cx D κ RX5 cX5_odds 10 (some .long) p s m args meth c) (hIt : Ij a 13)  (hih36 : ∀ (x1 : Int32) (x2 : Int32) (x3 : Int32) (x4 : Int32) (x5 : Int32) (σ : Mx) (H : Heap) (locs : List Loc) (hPt : va_P D classes (wMo κ τ a σ) H) (hS : va_S (cA a 13) s.heap H locs) (ls : Array Slot) (hl : lv_has ls 10 [(0, .ref (a 0)), (1, .int x1), (2, .int x2), (3, .int x3), (4, .int x4), (5, .int x5)]) (h : ih36 x1 x2 x3 x4 x5 σ), W p l e rX5_odds s m args below meth c H locs 0 0 (MQ below (QWl Q (fun u H => va_P D classes (wMo κ τ a u) H) (cA a 13)) args s 0 0 (cA a 13)) (F0 m 36 ls [])) : ∀ (x1 : Int32) (x2 : Int32) (x3 : Int32) (x5 : Int32) (y0 : Int32) (y1 : Int32) (σ : Mx) (H : Heap) (locs : List Loc) (hPt : va_P D classes (wMo κ τ a σ) H) (hS : va_S (cA a 13) s.heap H locs) (ls : Array Slot) (hl : lv_has ls 10 [(0, .ref (a 0)), (1, .int x1), (2, .int x2), (3, .int x3), (5, .int x5)]) (h : pX5_odds_66 ih36 Q x1 x2 x3 x5 y0 y1 σ), W p l e rX5_odds s m args below meth c H locs 0 0 (MQ below (QWl Q (fun u H => va_P D classes (wMo κ τ a u) H) (cA a 13)) args s 0 0 (cA a 13)) (F0 m 66 ls [.int y0, .int y1]) := by
  obtain ⟨hx, hb, hml, hown, hts, hr, hlk, hE⟩ := id Cc
  intro x1 x2 x3 x5 y0 y1 σ H locs hPt hS ls hl h
  unfold pX5_odds_66 at h
  refine lv_iadd hx hb dX5_odds_66 ?_
  refine lv_topi (fun v67 e67 => ?_)
  have h := h v67 e67
  refine lv_istore (lv' := [(4, .int v67), (0, .ref (a 0)), (1, .int x1), (2, .int x2), (3, .int x3), (5, .int x5)]) hx hb dX5_odds_67 hl (by decide) rfl (fun ls hl => ?_)
  refine lv_iinc (v := (x5 + 1)) (lv' := [(5, .int (x5 + 1)), (4, .int v67), (0, .ref (a 0)), (1, .int x1), (2, .int x2), (3, .int x3)]) hx hb dX5_odds_69 hl (k := 5) rfl rfl (by decide) rfl (fun ls hl => ?_)
  refine lv_goto (tgt := 36) hx hb dX5_odds_72 (by decide) ?_
  exact hih36 x1 x2 x3 v67 (x5 + 1) σ _ _ hPt hS _ (lv_sub hl [2, 3, 4, 5, 1, 0] rfl) h
set_option maxHeartbeats 4000000 in
set_option maxRecDepth 100000 in
theorem bX5_odds_129 {p : Program} {l : Launch} {e : Env} {s : State} {m : MethodId} {args : Array Value} {below : List Frame} {meth : Method} {c : Code} {D : va_G} {κ : Nat → ClassId} {τ : Nat → Nat} {a : Nat → Nat}  {ih111 : Int32 → Int32 → Int32 → Int32 → Int32 → Int64 → Int32 → Mx → Prop} {Q : Int64 → Mx → Prop} (Cc : Cx D κ RX5 cX5_odds 10 (some .long) p s m args meth c) (hIt : Ij a 13)  (hih111 : ∀ (x1 : Int32) (x2 : Int32) (x3 : Int32) (x4 : Int32) (x5 : Int32) (x7 : Int64) (x9 : Int32) (σ : Mx) (H : Heap) (locs : List Loc) (hPt : va_P D classes (wMo κ τ a σ) H) (hS : va_S (cA a 13) s.heap H locs) (ls : Array Slot) (hl : lv_has ls 10 [(1, .int x1), (2, .int x2), (3, .int x3), (4, .int x4), (5, .int x5), (7, .long x7), (9, .int x9)]) (h : ih111 x1 x2 x3 x4 x5 x7 x9 σ), W p l e rX5_odds s m args below meth c H locs 0 0 (MQ below (QWl Q (fun u H => va_P D classes (wMo κ τ a u) H) (cA a 13)) args s 0 0 (cA a 13)) (F0 m 111 ls [])) : ∀ (x1 : Int32) (x2 : Int32) (x3 : Int32) (x4 : Int32) (x5 : Int32) (x9 : Int32) (y0 : Int32) (y1 : Int64) (σ : Mx) (H : Heap) (locs : List Loc) (hPt : va_P D classes (wMo κ τ a σ) H) (hS : va_S (cA a 13) s.heap H locs) (ls : Array Slot) (hl : lv_has ls 10 [(1, .int x1), (2, .int x2), (3, .int x3), (4, .int x4), (5, .int x5), (9, .int x9)]) (h : pX5_odds_129 ih111 Q x1 x2 x3 x4 x5 x9 y0 y1 σ), W p l e rX5_odds s m args below meth c H locs 0 0 (MQ below (QWl Q (fun u H => va_P D classes (wMo κ τ a u) H) (cA a 13)) args s 0 0 (cA a 13)) (F0 m 129 ls [.int y0, .long y1]) := by
  obtain ⟨hx, hb, hml, hown, hts, hr, hlk, hE⟩ := id Cc
  intro x1 x2 x3 x4 x5 x9 y0 y1 σ H locs hPt hS ls hl h
  unfold pX5_odds_129 at h
  refine lv_iload hx hb dX5_odds_129 (lv_at hl 4 rfl) ?_
  refine lv_idiv hx hb dX5_odds_131 h.1 ?_
  have h := h.2
  refine lv_i2l (v := (y0 / x5).toInt64) hx hb dX5_odds_132 rfl ?_
  refine lv_lmul hx hb dX5_odds_133 ?_
  refine lv_topl (fun v134 e134 => ?_)
  have h := h v134 e134
  refine lv_lstore (lv' := [(7, .long v134), (1, .int x1), (2, .int x2), (3, .int x3), (4, .int x4), (5, .int x5), (9, .int x9)]) hx hb dX5_odds_134 hl (by decide) rfl (fun ls hl => ?_)
  refine lv_iinc (v := (x9 + 1)) (lv' := [(9, .int (x9 + 1)), (7, .long v134), (1, .int x1), (2, .int x2), (3, .int x3), (4, .int x4), (5, .int x5)]) hx hb dX5_odds_136 hl (k := 6) rfl rfl (by decide) rfl (fun ls hl => ?_)
  refine lv_goto (tgt := 111) hx hb dX5_odds_139 (by decide) ?_
  exact hih111 x1 x2 x3 x4 x5 v134 (x9 + 1) σ _ _ hPt hS _ (lv_sub hl [2, 3, 4, 5, 6, 1, 0] rfl) h
set_option maxHeartbeats 4000000 in
set_option maxRecDepth 100000 in
theorem bX5_odds_111 {p : Program} {l : Launch} {e : Env} {s : State} {m : MethodId} {args : Array Value} {below : List Frame} {meth : Method} {c : Code} {D : va_G} {κ : Nat → ClassId} {τ : Nat → Nat} {a : Nat → Nat}   {Q : Int64 → Mx → Prop} (Cc : Cx D κ RX5 cX5_odds 10 (some .long) p s m args meth c) (hIt : Ij a 13)   (n : Nat) : ∀ (x1 : Int32) (x2 : Int32) (x3 : Int32) (x4 : Int32) (x5 : Int32) (x7 : Int64) (x9 : Int32) (σ : Mx) (H : Heap) (locs : List Loc) (hPt : va_P D classes (wMo κ τ a σ) H) (hS : va_S (cA a 13) s.heap H locs) (ls : Array Slot) (hl : lv_has ls 10 [(1, .int x1), (2, .int x2), (3, .int x3), (4, .int x4), (5, .int x5), (7, .long x7), (9, .int x9)]) (h : pX5_odds_111 Q n x1 x2 x3 x4 x5 x7 x9 σ), W p l e rX5_odds s m args below meth c H locs 0 0 (MQ below (QWl Q (fun u H => va_P D classes (wMo κ τ a u) H) (cA a 13)) args s 0 0 (cA a 13)) (F0 m 111 ls []) := by
  obtain ⟨hx, hb, hml, hown, hts, hr, hlk, hE⟩ := id Cc
  induction n with
  | zero =>
    intro x1 x2 x3 x4 x5 x7 x9 σ H locs hPt hS ls hl h
    exact absurd h (fun z => z)
  | succ n hih111 =>
    intro x1 x2 x3 x4 x5 x7 x9 σ H locs hPt hS ls hl h
    have h : pX5_odds_111s (pX5_odds_111 Q n) Q x1 x2 x3 x4 x5 x7 x9 σ := h
    unfold pX5_odds_111s at h
    refine lv_iload hx hb dX5_odds_111 (lv_at hl 6 rfl) ?_
    refine lv_iload_n hx hb dX5_odds_113 rfl (lv_at hl 0 rfl) ?_
    refine lv_icmp_ge (tgt := 142) hx hb dX5_odds_114 (by decide) (fun c114 => ?_) (fun c114 => ?_)
    · have h := h.1 c114
      refine lv_lload hx hb dX5_odds_142 (lv_at hl 5 rfl) ?_
      exact W.lret (v := x7) hx hb hr (fun t ht _ => QWl.mk (u := σ) h hPt hS ht) hS.2.2 dX5_odds_144 (hlocks := hlk)
    · have h := h.2 c114
      refine lv_lload hx hb dX5_odds_117 (lv_at hl 5 rfl) ?_
      refine lv_iload_n hx hb dX5_odds_119 rfl (lv_at hl 1 rfl) ?_
      refine lv_if_ne (tgt := 128) hx hb dX5_odds_120 (by decide) (fun c120 => ?_) (fun c120 => ?_)
      · have h := h.1 c120
        refine lv_iload_n hx hb dX5_odds_128 rfl (lv_at hl 2 rfl) ?_
        exact bX5_odds_129 Cc hIt hih111 x1 x2 x3 x4 x5 x9 x3 x7 σ _ _ hPt hS _ (lv_sub hl [0, 1, 2, 3, 4, 6] rfl) h
      · have h := h.2 c120
        refine lv_iload hx hb dX5_odds_123 (lv_at hl 3 rfl) ?_
        refine lv_goto (tgt := 129) hx hb dX5_odds_125 (by decide) ?_
        exact bX5_odds_129 Cc hIt hih111 x1 x2 x3 x4 x5 x9 x4 x7 σ _ _ hPt hS _ (lv_sub hl [0, 1, 2, 3, 4, 6] rfl) h
set_option maxHeartbeats 4000000 in
set_option maxRecDepth 100000 in
theorem bX5_odds_82 {p : Program} {l : Launch} {e : Env} {s : State} {m : MethodId} {args : Array Value} {below : List Frame} {meth : Method} {c : Code} {D : va_G} {κ : Nat → ClassId} {τ : Nat → Nat} {a : Nat → Nat}   {Q : Int64 → Mx → Prop} (Cc : Cx D κ RX5 cX5_odds 10 (some .long) p s m args meth c) (hIt : Ij a 13)   (n : Nat) : ∀ (x1 : Int32) (x2 : Int32) (x3 : Int32) (x4 : Int32) (x5 : Int32) (x6 : Int32) (σ : Mx) (H : Heap) (locs : List Loc) (hPt : va_P D classes (wMo κ τ a σ) H) (hS : va_S (cA a 13) s.heap H locs) (ls : Array Slot) (hl : lv_has ls 10 [(1, .int x1), (2, .int x2), (3, .int x3), (4, .int x4), (5, .int x5), (6, .int x6)]) (h : pX5_odds_82 Q n x1 x2 x3 x4 x5 x6 σ), W p l e rX5_odds s m args below meth c H locs 0 0 (MQ below (QWl Q (fun u H => va_P D classes (wMo κ τ a u) H) (cA a 13)) args s 0 0 (cA a 13)) (F0 m 82 ls []) := by
  obtain ⟨hx, hb, hml, hown, hts, hr, hlk, hE⟩ := id Cc
  induction n with
  | zero =>
    intro x1 x2 x3 x4 x5 x6 σ H locs hPt hS ls hl h
    exact absurd h (fun z => z)
  | succ n hih82 =>
    intro x1 x2 x3 x4 x5 x6 σ H locs hPt hS ls hl h
    have h : pX5_odds_82s (pX5_odds_82 Q n) Q x1 x2 x3 x4 x5 x6 σ := h
    unfold pX5_odds_82s at h
    refine lv_iload hx hb dX5_odds_82 (lv_at hl 5 rfl) ?_
    refine lv_if_eq (tgt := 105) hx hb dX5_odds_84 (by decide) (fun c84 => ?_) (fun c84 => ?_)
    · have h := h.1 c84
      refine lv_lconst (v := 1) hx hb dX5_odds_105 (by decide) ?_
      refine lv_lstore (lv' := [(7, .long 1), (1, .int x1), (2, .int x2), (3, .int x3), (4, .int x4), (5, .int x5), (6, .int x6)]) hx hb dX5_odds_106 hl (by decide) rfl (fun ls hl => ?_)
      refine lv_iconst (v := 0) hx hb dX5_odds_108 (by decide) ?_
      refine lv_istore (lv' := [(9, .int 0), (7, .long 1), (1, .int x1), (2, .int x2), (3, .int x3), (4, .int x4), (5, .int x5), (6, .int x6)]) hx hb dX5_odds_109 hl (by decide) rfl (fun ls hl => ?_)
      obtain ⟨n, h⟩ := h
      exact bX5_odds_111 Cc hIt n x1 x2 x3 x4 x5 1 0 σ _ _ hPt hS _ (lv_sub hl [2, 3, 4, 5, 6, 1, 0] rfl) h
    · have h := h.2 c84
      refine lv_iload hx hb dX5_odds_87 (lv_at hl 4 rfl) ?_
      refine lv_iload hx hb dX5_odds_89 (lv_at hl 5 rfl) ?_
      refine lv_irem hx hb dX5_odds_91 h.1 ?_
      have h := h.2
      refine lv_topi (fun v92 e92 => ?_)
      have h := h v92 e92
      refine lv_istore (lv' := [(7, .int v92), (1, .int x1), (2, .int x2), (3, .int x3), (4, .int x4), (5, .int x5), (6, .int x6)]) hx hb dX5_odds_92 hl (by decide) rfl (fun ls hl => ?_)
      refine lv_iload hx hb dX5_odds_94 (lv_at hl 6 rfl) ?_
      refine lv_istore (lv' := [(5, .int x6), (7, .int v92), (1, .int x1), (2, .int x2), (3, .int x3), (4, .int x4), (6, .int x6)]) hx hb dX5_odds_96 hl (by decide) rfl (fun ls hl => ?_)
      refine lv_iload hx hb dX5_odds_98 (lv_at hl 1 rfl) ?_
      refine lv_istore (lv' := [(6, .int v92), (5, .int x6), (7, .int v92), (1, .int x1), (2, .int x2), (3, .int x3), (4, .int x4)]) hx hb dX5_odds_100 hl (by decide) rfl (fun ls hl => ?_)
      refine lv_goto (tgt := 82) hx hb dX5_odds_102 (by decide) ?_
      exact hih82 x1 x2 x3 x4 x6 v92 σ _ _ hPt hS _ (lv_sub hl [3, 4, 5, 6, 1, 0] rfl) h
set_option maxHeartbeats 4000000 in
set_option maxRecDepth 100000 in
theorem bX5_odds_36 {p : Program} {l : Launch} {e : Env} {s : State} {m : MethodId} {args : Array Value} {below : List Frame} {meth : Method} {c : Code} {D : va_G} {κ : Nat → ClassId} {τ : Nat → Nat} {a : Nat → Nat}   {Q : Int64 → Mx → Prop} (Cc : Cx D κ RX5 cX5_odds 10 (some .long) p s m args meth c) (hIt : Ij a 13)   (n : Nat) : ∀ (x1 : Int32) (x2 : Int32) (x3 : Int32) (x4 : Int32) (x5 : Int32) (σ : Mx) (H : Heap) (locs : List Loc) (hPt : va_P D classes (wMo κ τ a σ) H) (hS : va_S (cA a 13) s.heap H locs) (ls : Array Slot) (hl : lv_has ls 10 [(0, .ref (a 0)), (1, .int x1), (2, .int x2), (3, .int x3), (4, .int x4), (5, .int x5)]) (h : pX5_odds_36 Q n x1 x2 x3 x4 x5 σ), W p l e rX5_odds s m args below meth c H locs 0 0 (MQ below (QWl Q (fun u H => va_P D classes (wMo κ τ a u) H) (cA a 13)) args s 0 0 (cA a 13)) (F0 m 36 ls []) := by
  obtain ⟨hx, hb, hml, hown, hts, hr, hlk, hE⟩ := id Cc
  induction n with
  | zero =>
    intro x1 x2 x3 x4 x5 σ H locs hPt hS ls hl h
    exact absurd h (fun z => z)
  | succ n hih36 =>
    intro x1 x2 x3 x4 x5 σ H locs hPt hS ls hl h
    have h : pX5_odds_36s (pX5_odds_36 Q n) Q x1 x2 x3 x4 x5 σ := h
    unfold pX5_odds_36s at h
    refine lv_iload hx hb dX5_odds_36 (lv_at hl 5 rfl) ?_
    refine lv_iload_n hx hb dX5_odds_38 rfl (lv_at hl 3 rfl) ?_
    refine lv_icmp_ge (tgt := 75) hx hb dX5_odds_39 (by decide) (fun c39 => ?_) (fun c39 => ?_)
    · have h := h.1 c39
      refine lv_iload_n hx hb dX5_odds_75 rfl (lv_at hl 3 rfl) ?_
      refine lv_istore (lv' := [(5, .int x3), (0, .ref (a 0)), (1, .int x1), (2, .int x2), (3, .int x3), (4, .int x4)]) hx hb dX5_odds_76 hl (by decide) rfl (fun ls hl => ?_)
      refine lv_iload hx hb dX5_odds_78 (lv_at hl 5 rfl) ?_
      refine lv_istore (lv' := [(6, .int x4), (5, .int x3), (0, .ref (a 0)), (1, .int x1), (2, .int x2), (3, .int x3), (4, .int x4)]) hx hb dX5_odds_80 hl (by decide) rfl (fun ls hl => ?_)
      obtain ⟨n, h⟩ := h
      exact bX5_odds_82 Cc hIt n x1 x2 x3 x4 x3 x4 σ _ _ hPt hS _ (lv_sub hl [3, 4, 5, 6, 1, 0] rfl) h
    · have h := h.2 c39
      refine lv_iload hx hb dX5_odds_42 (lv_at hl 4 rfl) ?_
      refine lv_aload_n hx hb dX5_odds_44 rfl (lv_at hl 0 rfl) ?_
      refine lv_iload hx hb dX5_odds_45 (lv_at hl 5 rfl) ?_
      refine lv_bipush (v := 8) hx hb dX5_odds_47 (by decide) ?_
      refine lv_idiv hx hb dX5_odds_49 (by decide) ?_
      refine lv_iload hx hb dX5_odds_50 (lv_at hl 5 rfl) ?_
      refine lv_bipush (v := 8) hx hb dX5_odds_52 (by decide) ?_
      refine lv_irem hx hb dX5_odds_54 (by decide) ?_
      refine kWi (kV Cc (mX5_isNoWorse l D κ τ a hIt h) (qX5_isNoWorse hts (tw_1110 hts) ⟨(Nat.le_of_ble_eq_true rfl), (Nat.le_of_ble_eq_true rfl)⟩) (va_recv hE.1 hPt (ci := 5) (q0 := 0) rfl rfl) (rest := [.int x4]) hPt rfl hl.1 rfl (Nat.le_of_ble_eq_true rfl) dX5_odds_55 ⟨Nat.zero_le _, Nat.zero_le _⟩) hS (fun q h9 => h9) (fun r55 u55 H1 locs1 h hB hk hS1 => ?_)
      have hPt := hB
      have hS := hS1
      refine lv_if_eq (tgt := 65) hx hb dX5_odds_58 (by decide) (fun c58 => ?_) (fun c58 => ?_)
      · have h := h.1 c58
        refine lv_iconst (v := 0) hx hb dX5_odds_65 (by decide) ?_
        exact bX5_odds_66 Cc hIt hih36 x1 x2 x3 x5 0 x4 u55 _ _ hPt hS _ (lv_sub hl [0, 1, 2, 3, 5] rfl) h
      · have h := h.2 c58
        refine lv_iconst (v := 1) hx hb dX5_odds_61 (by decide) ?_
        refine lv_goto (tgt := 66) hx hb dX5_odds_62 (by decide) ?_
        exact bX5_odds_66 Cc hIt hih36 x1 x2 x3 x5 1 x4 u55 _ _ hPt hS _ (lv_sub hl [0, 1, 2, 3, 5] rfl) h
set_option maxHeartbeats 4000000 in
set_option maxRecDepth 100000 in
theorem mX5_odds (l : Launch) (D : va_G) (κ : Nat → ClassId) (τ : Nat → Nat) (a : Nat → Nat) {σ : Mx} {x1 : Int32} {x2 : Int32} {Q : Int64 → Mx → Prop} (hIt : Ij a 13) (h : pX5_odds σ x1 x2 Q) : Met l yX5_odds (wz yX5_odds cX5_odds 10 (some .long)) rX5_odds (va_Pc [.ref (a 0), .int x1, .int x2] (PE D κ (fun H => va_P D classes (wMo κ τ a σ) H))) (QWl Q (fun u H => va_P D classes (wMo κ τ a u) H) (cA a 13)) 0 0 (cA a 13) := by
  refine Met_of l (own := RX5) (by decide) rfl (Nat.le_of_ble_eq_true rfl) (fun p e s m below meth c Cc hPP ls hl => ?_)
  obtain ⟨hx, hb, hml, hown, hts, hr, hlk, hE⟩ := id Cc
  have hl : lv_has ls 10 [(0, .ref (a 0)), (1, .int x1), (2, .int x2)] := hl
  have hPt := hPP
  have hS : va_S (cA a 13) s.heap s.heap [] := va_S.rf
  unfold pX5_odds at h
  refine lv_iload_n hx hb dX5_odds_0 rfl (lv_at hl 1 rfl) ?_
  refine lv_iconst (v := 0) hx hb dX5_odds_1 (by decide) ?_
  refine lv_bipush (v := 10) hx hb dX5_odds_2 (by decide) ?_
  refine kR (kS Cc (mX5_within l D κ h) (qX5_within hts (tw_832 hts) ⟨(Nat.le_of_ble_eq_true rfl), (Nat.le_of_ble_eq_true rfl)⟩) (rest := []) trivial rfl hl.1 rfl (Nat.le_of_ble_eq_true rfl) dX5_odds_4 ⟨Nat.zero_le _, Nat.zero_le _⟩) (fun r4 h => ?_)
  refine lv_if_eq (tgt := 19) hx hb dX5_odds_7 (by decide) (fun c7 => ?_) (fun c7 => ?_)
  · have h := h.1 c7
    exact bX5_odds_19 Cc hIt σ _ _ hPt hS _ (lv_sub hl [0] rfl) h
  · have h := h.2 c7
    refine lv_iload_n hx hb dX5_odds_10 rfl (lv_at hl 2 rfl) ?_
    refine lv_iconst (v := 0) hx hb dX5_odds_11 (by decide) ?_
    refine lv_iconst (v := 1) hx hb dX5_odds_12 (by decide) ?_
    refine kR (kS Cc (mX5_within l D κ h) (qX5_within hts (tw_832 hts) ⟨(Nat.le_of_ble_eq_true rfl), (Nat.le_of_ble_eq_true rfl)⟩) (rest := []) trivial rfl hl.1 rfl (Nat.le_of_ble_eq_true rfl) dX5_odds_13 ⟨Nat.zero_le _, Nat.zero_le _⟩) (fun r13 h => ?_)
    refine lv_if_ne (tgt := 27) hx hb dX5_odds_16 (by decide) (fun c16 => ?_) (fun c16 => ?_)
    · have h := h.1 c16
      refine lv_bipush (v := 64) hx hb dX5_odds_27 (by decide) ?_
      refine lv_istore_n (lv' := [(3, .int 64), (0, .ref (a 0)), (1, .int x1), (2, .int x2)]) hx hb dX5_odds_29 rfl hl (by decide) rfl (fun ls hl => ?_)
      refine lv_iconst (v := 0) hx hb dX5_odds_30 (by decide) ?_
      refine lv_istore (lv' := [(4, .int 0), (3, .int 64), (0, .ref (a 0)), (1, .int x1), (2, .int x2)]) hx hb dX5_odds_31 hl (by decide) rfl (fun ls hl => ?_)
      refine lv_iconst (v := 0) hx hb dX5_odds_33 (by decide) ?_
      refine lv_istore (lv' := [(5, .int 0), (4, .int 0), (3, .int 64), (0, .ref (a 0)), (1, .int x1), (2, .int x2)]) hx hb dX5_odds_34 hl (by decide) rfl (fun ls hl => ?_)
      obtain ⟨n, h⟩ := h
      exact bX5_odds_36 Cc hIt n x1 x2 64 0 0 σ _ _ hPt hS _ (lv_sub hl [3, 4, 5, 2, 1, 0] rfl) h
    · have h := h.2 c16
      exact bX5_odds_19 Cc hIt σ _ _ hPt hS _ (lv_sub hl [0] rfl) h
theorem qX5_odds {R : Room} {s : State} {args : Array Value} {own : String} {idx : Nat} (hts : ∀ w ∈ gG, w.before args s = true) (hl : (Cond.methodLink own idx yX5_odds).before args s = true) (hR : rX5_odds.frames + 1 ≤ R.frames ∧ 8 + (10 + 11) + rX5_odds.locals ≤ R.locals) : CallW R s args own RX5 idx yX5_odds cX5_odds 10 (some .long) (wz yX5_odds cX5_odds 10 (some .long)) rX5_odds 0 0 2 := ⟨kw 2 hts mw_1109 rfl rfl (tw_75 hts) hl (by decide +kernel) hR, tw_1107 hts, tw_1108 hts⟩
abbrev rX5_seed : Room := { frames := 1, cells := 0, slots := 0, locals := 23 }
def pX5_seed (σ : Mx) (x1 : Int32) (Q : Int32 → Mx → Prop) : Prop := pX5_become σ 2 x1 (fun r3 u3 => (Q r3 u3))
set_option maxHeartbeats 4000000 in
set_option maxRecDepth 100000 in
theorem mX5_seed (l : Launch) (D : va_G) (κ : Nat → ClassId) (τ : Nat → Nat) (a : Nat → Nat) {σ : Mx} {x1 : Int32} {Q : Int32 → Mx → Prop} (hIt : Ij a 13) (h : pX5_seed σ x1 Q) : Met l yX5_seed (wz yX5_seed cX5_seed 2 (some .int)) rX5_seed (va_Pc [.ref (a 0), .int x1] (PE D κ (fun H => va_P D classes (wMo κ τ a σ) H))) (QWi Q (fun u H => va_P D classes (wMo κ τ a u) H) (cA a 13)) 0 0 (cA a 13) := by
  refine Met_of l (own := RX5) (by decide) rfl (Nat.le_of_ble_eq_true rfl) (fun p e s m below meth c Cc hPP ls hl => ?_)
  obtain ⟨hx, hb, hml, hown, hts, hr, hlk, hE⟩ := id Cc
  have hl : lv_has ls 2 [(0, .ref (a 0)), (1, .int x1)] := hl
  have hPt := hPP
  have hS : va_S (cA a 13) s.heap s.heap [] := va_S.rf
  unfold pX5_seed at h
  refine lv_aload_n hx hb dX5_seed_0 rfl (lv_at hl 0 rfl) ?_
  refine lv_iconst (v := 2) hx hb dX5_seed_1 (by decide) ?_
  refine lv_iload_n hx hb dX5_seed_2 rfl (lv_at hl 1 rfl) ?_
  refine kWi (kV Cc (mX5_become l D κ τ a hIt h) (qX5_become hts (tw_838 hts) ⟨(Nat.le_of_ble_eq_true rfl), (Nat.le_of_ble_eq_true rfl)⟩) (va_recv hE.1 hPt (ci := 5) (q0 := 0) rfl rfl) (rest := []) hPt rfl hl.1 rfl (Nat.le_of_ble_eq_true rfl) dX5_seed_3 ⟨Nat.zero_le _, Nat.zero_le _⟩) hS (fun q h9 => h9) (fun r3 u3 H1 locs1 h hB hk hS1 => ?_)
  have hPt := hB
  have hS := hS1
  exact W.iret (v := r3) hx hb hr (fun t ht _ => QWi.mk (u := u3) h hPt hS ht) hS.2.2 dX5_seed_6 (hlocks := hlk)
theorem qX5_seed {R : Room} {s : State} {args : Array Value} {own : String} {idx : Nat} (hts : ∀ w ∈ gG, w.before args s = true) (hl : (Cond.methodLink own idx yX5_seed).before args s = true) (hR : rX5_seed.frames + 1 ≤ R.frames ∧ 8 + (2 + 11) + rX5_seed.locals ≤ R.locals) : CallW R s args own RX5 idx yX5_seed cX5_seed 2 (some .int) (wz yX5_seed cX5_seed 2 (some .int)) rX5_seed 0 0 1 := ⟨kw 1 hts mw_1117 rfl rfl (tw_75 hts) hl (by decide +kernel) hR, tw_1115 hts, tw_1116 hts⟩
abbrev rX5_feed : Room := { frames := 1, cells := 0, slots := 0, locals := 22 }
def pX5_feed_38s  (ih38 : Int32 → Int32 → Mx → Prop) (Q : Int32 → Mx → Prop) (x1 : Int32) (x3 : Int32) (σ : Mx) : Prop := (x3 < 0 → (Q (σ 7 0) σ)) ∧ (¬ x3 < 0 → (vp_in (σ 7 0) 120 ∧ (ih38 x1 (x3 + (-1)) (st (st σ 6 (σ 7 0).toNatClampNeg ((x1 >>> ((8 * x3) &&& 31)) &&& 255)) 7 0 (((st σ 6 (σ 7 0).toNatClampNeg ((x1 >>> ((8 * x3) &&& 31)) &&& 255)) 7 0) + 1)))))
noncomputable def pX5_feed_38 (Q : Int32 → Mx → Prop) (n : Nat) : Int32 → Int32 → Mx → Prop := Nat.rec (motive := fun _ => Int32 → Int32 → Mx → Prop) (fun _ _ _ => False) (fun _ ih => pX5_feed_38s ih Q) n
def pX5_feed (σ : Mx) (x1 : Int32) (x2 : Int32) (Q : Int32 → Mx → Prop) : Prop := pX5_within x2 1 4 (fun r3 => ((¬ r3 = 0 → ((((σ 7 0) + x2) ≤ 120 → (∀ v37 : Int32, v37 = (x2 - 1) → (∃ n, pX5_feed_38 Q n x1 v37 σ))) ∧ (¬ ((σ 7 0) + x2) ≤ 120 → (pX5_finding σ (-1000002) (fun r30 u30 => (Q r30 u30)))))) ∧ (r3 = 0 → (pX5_finding σ (-1000001) (fun r12 u12 => (Q r12 u12))))))
set_option maxHeartbeats 4000000 in
set_option maxRecDepth 100000 in
theorem bX5_feed_38 {p : Program} {l : Launch} {e : Env} {s : State} {m : MethodId} {args : Array Value} {below : List Frame} {meth : Method} {c : Code} {D : va_G} {κ : Nat → ClassId} {τ : Nat → Nat} {a : Nat → Nat}   {Q : Int32 → Mx → Prop} (Cc : Cx D κ RX5 cX5_feed 4 (some .int) p s m args meth c) (hIt : Ij a 13)   (n : Nat) : ∀ (x1 : Int32) (x3 : Int32) (σ : Mx) (H : Heap) (locs : List Loc) (hPt : va_P D classes (wMo κ τ a σ) H) (hS : va_S (cA a 13) s.heap H locs) (ls : Array Slot) (hl : lv_has ls 4 [(0, .ref (a 0)), (1, .int x1), (3, .int x3)]) (h : pX5_feed_38 Q n x1 x3 σ), W p l e rX5_feed s m args below meth c H locs 0 0 (MQ below (QWi Q (fun u H => va_P D classes (wMo κ τ a u) H) (cA a 13)) args s 0 0 (cA a 13)) (F0 m 38 ls []) := by
  obtain ⟨hx, hb, hml, hown, hts, hr, hlk, hE⟩ := id Cc
  induction n with
  | zero =>
    intro x1 x3 σ H locs hPt hS ls hl h
    exact absurd h (fun z => z)
  | succ n hih38 =>
    intro x1 x3 σ H locs hPt hS ls hl h
    have h : pX5_feed_38s (pX5_feed_38 Q n) Q x1 x3 σ := h
    unfold pX5_feed_38s at h
    refine lv_iload_n hx hb dX5_feed_38 rfl (lv_at hl 2 rfl) ?_
    refine lv_if_lt (tgt := 77) hx hb dX5_feed_39 (by decide) (fun c39 => ?_) (fun c39 => ?_)
    · have h := h.1 c39
      refine lv_aload_n hx hb dX5_feed_77 rfl (lv_at hl 0 rfl) ?_
      refine gMo_7 Cc hPt (tw_768 hts) dX5_feed_78 ?_
      exact W.iret (v := (σ 7 0)) hx hb hr (fun t ht _ => QWi.mk (u := σ) h hPt hS ht) hS.2.2 dX5_feed_81 (hlocks := hlk)
    · have h := h.2 c39
      refine lv_aload_n hx hb dX5_feed_42 rfl (lv_at hl 0 rfl) ?_
      refine gMo_6 Cc hPt (tw_767 hts) dX5_feed_43 ?_
      refine lv_aload_n hx hb dX5_feed_46 rfl (lv_at hl 0 rfl) ?_
      refine gMo_7 Cc hPt (tw_768 hts) dX5_feed_47 ?_
      refine lv_iload_n hx hb dX5_feed_50 rfl (lv_at hl 1 rfl) ?_
      refine lv_bipush (v := 8) hx hb dX5_feed_51 (by decide) ?_
      refine lv_iload_n hx hb dX5_feed_53 rfl (lv_at hl 2 rfl) ?_
      refine lv_imul hx hb dX5_feed_54 ?_
      refine lv_ishr hx hb dX5_feed_55 ?_
      refine lv_sipush (v := 255) hx hb dX5_feed_56 (by decide) ?_
      refine lv_iand hx hb dX5_feed_59 ?_
      refine sMo_6 Cc hPt hIt hS ⟨6, by decide, rfl⟩ h.1 dX5_feed_60 (fun H1 locs1 hB hS1 hk => ?_)
      have h := h.2
      have hPt := hB
      have hS := hS1
      refine lv_aload_n hx hb dX5_feed_61 rfl (lv_at hl 0 rfl) ?_
      refine lv_dup hx hb dX5_feed_62 rfl ?_
      refine gMo_7 Cc hPt (tw_768 hts) dX5_feed_63 ?_
      refine lv_iconst (v := 1) hx hb dX5_feed_66 (by decide) ?_
      refine lv_iadd hx hb dX5_feed_67 ?_
      refine uMo_7 Cc hPt hIt hS ⟨0, by decide, rfl⟩ (tw_768 hts) dX5_feed_68 (fun H1 locs1 hB hS1 hk => ?_)
      have hPt := hB
      have hS := hS1
      refine lv_iinc (v := (x3 + (-1))) (lv' := [(3, .int (x3 + (-1))), (0, .ref (a 0)), (1, .int x1)]) hx hb dX5_feed_71 hl (k := 2) rfl rfl (by decide) rfl (fun ls hl => ?_)
      refine lv_goto (tgt := 38) hx hb dX5_feed_74 (by decide) ?_
      exact hih38 x1 (x3 + (-1)) (st (st σ 6 (σ 7 0).toNatClampNeg ((x1 >>> ((8 * x3) &&& 31)) &&& 255)) 7 0 (((st σ 6 (σ 7 0).toNatClampNeg ((x1 >>> ((8 * x3) &&& 31)) &&& 255)) 7 0) + 1)) _ _ hPt hS _ (lv_sub hl [1, 2, 0] rfl) h
set_option maxHeartbeats 4000000 in
set_option maxRecDepth 100000 in
theorem mX5_feed (l : Launch) (D : va_G) (κ : Nat → ClassId) (τ : Nat → Nat) (a : Nat → Nat) {σ : Mx} {x1 : Int32} {x2 : Int32} {Q : Int32 → Mx → Prop} (hIt : Ij a 13) (h : pX5_feed σ x1 x2 Q) : Met l yX5_feed (wz yX5_feed cX5_feed 4 (some .int)) rX5_feed (va_Pc [.ref (a 0), .int x1, .int x2] (PE D κ (fun H => va_P D classes (wMo κ τ a σ) H))) (QWi Q (fun u H => va_P D classes (wMo κ τ a u) H) (cA a 13)) 0 0 (cA a 13) := by
  refine Met_of l (own := RX5) (by decide) rfl (Nat.le_of_ble_eq_true rfl) (fun p e s m below meth c Cc hPP ls hl => ?_)
  obtain ⟨hx, hb, hml, hown, hts, hr, hlk, hE⟩ := id Cc
  have hl : lv_has ls 4 [(0, .ref (a 0)), (1, .int x1), (2, .int x2)] := hl
  have hPt := hPP
  have hS : va_S (cA a 13) s.heap s.heap [] := va_S.rf
  unfold pX5_feed at h
  refine lv_iload_n hx hb dX5_feed_0 rfl (lv_at hl 2 rfl) ?_
  refine lv_iconst (v := 1) hx hb dX5_feed_1 (by decide) ?_
  refine lv_iconst (v := 4) hx hb dX5_feed_2 (by decide) ?_
  refine kR (kS Cc (mX5_within l D κ h) (qX5_within hts (tw_832 hts) ⟨(Nat.le_of_ble_eq_true rfl), (Nat.le_of_ble_eq_true rfl)⟩) (rest := []) trivial rfl hl.1 rfl (Nat.le_of_ble_eq_true rfl) dX5_feed_3 ⟨Nat.zero_le _, Nat.zero_le _⟩) (fun r3 h => ?_)
  refine lv_if_ne (tgt := 16) hx hb dX5_feed_6 (by decide) (fun c6 => ?_) (fun c6 => ?_)
  · have h := h.1 c6
    refine lv_aload_n hx hb dX5_feed_16 rfl (lv_at hl 0 rfl) ?_
    refine gMo_7 Cc hPt (tw_768 hts) dX5_feed_17 ?_
    refine lv_iload_n hx hb dX5_feed_20 rfl (lv_at hl 2 rfl) ?_
    refine lv_iadd hx hb dX5_feed_21 ?_
    refine lv_bipush (v := 120) hx hb dX5_feed_22 (by decide) ?_
    refine lv_icmp_le (tgt := 34) hx hb dX5_feed_24 (by decide) (fun c24 => ?_) (fun c24 => ?_)
    · have h := h.1 c24
      refine lv_iload_n hx hb dX5_feed_34 rfl (lv_at hl 2 rfl) ?_
      refine lv_iconst (v := 1) hx hb dX5_feed_35 (by decide) ?_
      refine lv_isub hx hb dX5_feed_36 ?_
      refine lv_topi (fun v37 e37 => ?_)
      have h := h v37 e37
      refine lv_istore_n (lv' := [(3, .int v37), (0, .ref (a 0)), (1, .int x1), (2, .int x2)]) hx hb dX5_feed_37 rfl hl (by decide) rfl (fun ls hl => ?_)
      obtain ⟨n, h⟩ := h
      exact bX5_feed_38 Cc hIt n x1 v37 σ _ _ hPt hS _ (lv_sub hl [1, 2, 0] rfl) h
    · have h := h.2 c24
      refine lv_aload_n hx hb dX5_feed_27 rfl (lv_at hl 0 rfl) ?_
      refine lv_ldc (own := RX5) (v := (-1000002)) hx hb hown (tw_861 hts) dX5_feed_28 ?_
      refine kWi (kV Cc (mX5_finding l D κ τ a hIt h) (qX5_finding hts (tw_843 hts) ⟨(Nat.le_of_ble_eq_true rfl), (Nat.le_of_ble_eq_true rfl)⟩) (va_recv hE.1 hPt (ci := 5) (q0 := 0) rfl rfl) (rest := []) hPt rfl hl.1 rfl (Nat.le_of_ble_eq_true rfl) dX5_feed_30 ⟨Nat.zero_le _, Nat.zero_le _⟩) hS (fun q h9 => h9) (fun r30 u30 H1 locs1 h hB hk hS1 => ?_)
      have hPt := hB
      have hS := hS1
      exact W.iret (v := r30) hx hb hr (fun t ht _ => QWi.mk (u := u30) h hPt hS ht) hS.2.2 dX5_feed_33 (hlocks := hlk)
  · have h := h.2 c6
    refine lv_aload_n hx hb dX5_feed_9 rfl (lv_at hl 0 rfl) ?_
    refine lv_ldc (own := RX5) (v := (-1000001)) hx hb hown (tw_842 hts) dX5_feed_10 ?_
    refine kWi (kV Cc (mX5_finding l D κ τ a hIt h) (qX5_finding hts (tw_843 hts) ⟨(Nat.le_of_ble_eq_true rfl), (Nat.le_of_ble_eq_true rfl)⟩) (va_recv hE.1 hPt (ci := 5) (q0 := 0) rfl rfl) (rest := []) hPt rfl hl.1 rfl (Nat.le_of_ble_eq_true rfl) dX5_feed_12 ⟨Nat.zero_le _, Nat.zero_le _⟩) hS (fun q h9 => h9) (fun r12 u12 H1 locs1 h hB hk hS1 => ?_)
    have hPt := hB
    have hS := hS1
    exact W.iret (v := r12) hx hb hr (fun t ht _ => QWi.mk (u := u12) h hPt hS ht) hS.2.2 dX5_feed_15 (hlocks := hlk)
theorem qX5_feed {R : Room} {s : State} {args : Array Value} {own : String} {idx : Nat} (hts : ∀ w ∈ gG, w.before args s = true) (hl : (Cond.methodLink own idx yX5_feed).before args s = true) (hR : rX5_feed.frames + 1 ≤ R.frames ∧ 8 + (4 + 11) + rX5_feed.locals ≤ R.locals) : CallW R s args own RX5 idx yX5_feed cX5_feed 4 (some .int) (wz yX5_feed cX5_feed 4 (some .int)) rX5_feed 0 0 2 := ⟨kw 2 hts mw_1121 rfl rfl (tw_75 hts) hl (by decide +kernel) hR, tw_1119 hts, tw_1120 hts⟩
abbrev rX5_wipe : Room := { frames := 0, cells := 0, slots := 0, locals := 0 }
def pX5_wipe (σ : Mx)  (Q : Int32 → Mx → Prop) : Prop := ∀ v4 : Int32, v4 = (σ 7 0) → (Q v4 (st σ 7 0 0))
set_option maxHeartbeats 4000000 in
set_option maxRecDepth 100000 in
theorem mX5_wipe (l : Launch) (D : va_G) (κ : Nat → ClassId) (τ : Nat → Nat) (a : Nat → Nat) {σ : Mx}  {Q : Int32 → Mx → Prop} (hIt : Ij a 13) (h : pX5_wipe σ  Q) : Met l yX5_wipe (wz yX5_wipe cX5_wipe 2 (some .int)) rX5_wipe (va_Pc [.ref (a 0)] (PE D κ (fun H => va_P D classes (wMo κ τ a σ) H))) (QWi Q (fun u H => va_P D classes (wMo κ τ a u) H) (cA a 13)) 0 0 (cA a 13) := by
  refine Met_of l (own := RX5) (by decide) rfl (Nat.le_of_ble_eq_true rfl) (fun p e s m below meth c Cc hPP ls hl => ?_)
  obtain ⟨hx, hb, hml, hown, hts, hr, hlk, hE⟩ := id Cc
  have hl : lv_has ls 2 [(0, .ref (a 0))] := hl
  have hPt := hPP
  have hS : va_S (cA a 13) s.heap s.heap [] := va_S.rf
  unfold pX5_wipe at h
  refine lv_aload_n hx hb dX5_wipe_0 rfl (lv_at hl 0 rfl) ?_
  refine gMo_7 Cc hPt (tw_768 hts) dX5_wipe_1 ?_
  refine lv_topi (fun v4 e4 => ?_)
  have h := h v4 e4
  refine lv_istore_n (lv' := [(1, .int v4), (0, .ref (a 0))]) hx hb dX5_wipe_4 rfl hl (by decide) rfl (fun ls hl => ?_)
  refine lv_aload_n hx hb dX5_wipe_5 rfl (lv_at hl 1 rfl) ?_
  refine lv_iconst (v := 0) hx hb dX5_wipe_6 (by decide) ?_
  refine uMo_7 Cc hPt hIt hS ⟨0, by decide, rfl⟩ (tw_768 hts) dX5_wipe_7 (fun H1 locs1 hB hS1 hk => ?_)
  have hPt := hB
  have hS := hS1
  refine lv_iload_n hx hb dX5_wipe_10 rfl (lv_at hl 0 rfl) ?_
  exact W.iret (v := v4) hx hb hr (fun t ht _ => QWi.mk (u := (st σ 7 0 0)) h hPt hS ht) hS.2.2 dX5_wipe_11 (hlocks := hlk)
theorem qX5_wipe {R : Room} {s : State} {args : Array Value} {own : String} {idx : Nat} (hts : ∀ w ∈ gG, w.before args s = true) (hl : (Cond.methodLink own idx yX5_wipe).before args s = true) (hR : rX5_wipe.frames + 1 ≤ R.frames ∧ 8 + (2 + 11) + rX5_wipe.locals ≤ R.locals) : CallW R s args own RX5 idx yX5_wipe cX5_wipe 2 (some .int) (wz yX5_wipe cX5_wipe 2 (some .int)) rX5_wipe 0 0 0 := ⟨kw 0 hts mw_1125 rfl rfl (tw_75 hts) hl (by decide +kernel) hR, tw_1123 hts, tw_1124 hts⟩
abbrev rX5_byteAt : Room := { frames := 0, cells := 0, slots := 0, locals := 0 }
def pX5_byteAt_18 (σ : Mx) (Q : Int32 → Prop) (y0 : Int32) : Prop := Q y0
def pX5_byteAt (σ : Mx) (x1 : Int32) (Q : Int32 → Prop) : Prop := ((σ 7 0) ≤ x1 → (pX5_byteAt_18 σ Q (-1))) ∧ (¬ (σ 7 0) ≤ x1 → (vp_in x1 120 ∧ (pX5_byteAt_18 σ Q (σ 6 x1.toNatClampNeg))))
set_option maxHeartbeats 4000000 in
set_option maxRecDepth 100000 in
theorem bX5_byteAt_18 {p : Program} {l : Launch} {e : Env} {s : State} {m : MethodId} {args : Array Value} {below : List Frame} {meth : Method} {c : Code} {D : va_G} {κ : Nat → ClassId} {τ : Nat → Nat} {a : Nat → Nat} {σ : Mx}  {Q : Int32 → Prop} (Cc : Cx D κ RX5 cX5_byteAt 2 (some .int) p s m args meth c)  (hPt : va_P D classes (wMo κ τ a σ) s.heap)  : ∀ (y0 : Int32) (ls : Array Slot) (hl : lv_has ls 2 []) (h : pX5_byteAt_18 σ Q y0), W p l e rX5_byteAt s m args below meth c s.heap [] 0 0 (MQ below (RQ Q) args s 0 0 (fun _ => False)) (F0 m 18 ls [.int y0]) := by
  obtain ⟨hx, hb, hml, hown, hts, hr, hlk, hE⟩ := id Cc
  intro y0 ls hl h
  unfold pX5_byteAt_18 at h
  exact W.iret (v := y0) hx hb hr (fun t ht _ => RQ.mk h ht) (fun _ h9 => by cases h9) dX5_byteAt_18 (hlocks := hlk)
set_option maxHeartbeats 4000000 in
set_option maxRecDepth 100000 in
theorem mX5_byteAt (l : Launch) (D : va_G) (κ : Nat → ClassId) (τ : Nat → Nat) (a : Nat → Nat) {σ : Mx} {x1 : Int32} {Q : Int32 → Prop}  (h : pX5_byteAt σ x1 Q) : Met l yX5_byteAt (wz yX5_byteAt cX5_byteAt 2 (some .int)) rX5_byteAt (va_Pc [.ref (a 0), .int x1] (PE D κ (fun H => va_P D classes (wMo κ τ a σ) H))) (RQ Q) 0 0 (fun _ => False) := by
  refine Met_of l (own := RX5) (by decide) rfl (Nat.le_of_ble_eq_true rfl) (fun p e s m below meth c Cc hPP ls hl => ?_)
  obtain ⟨hx, hb, hml, hown, hts, hr, hlk, hE⟩ := id Cc
  have hl : lv_has ls 2 [(0, .ref (a 0)), (1, .int x1)] := hl
  have hPt := hPP
  unfold pX5_byteAt at h
  refine lv_iload_n hx hb dX5_byteAt_0 rfl (lv_at hl 1 rfl) ?_
  refine lv_aload_n hx hb dX5_byteAt_1 rfl (lv_at hl 0 rfl) ?_
  refine gMo_7 Cc hPt (tw_768 hts) dX5_byteAt_2 ?_
  refine lv_icmp_ge (tgt := 17) hx hb dX5_byteAt_5 (by decide) (fun c5 => ?_) (fun c5 => ?_)
  · have h := h.1 c5
    refine lv_iconst (v := (-1)) hx hb dX5_byteAt_17 (by decide) ?_
    exact bX5_byteAt_18 Cc hPt (-1)  _ (lv_sub hl [] rfl) h
  · have h := h.2 c5
    refine lv_aload_n hx hb dX5_byteAt_8 rfl (lv_at hl 0 rfl) ?_
    refine gMo_6 Cc hPt (tw_767 hts) dX5_byteAt_9 ?_
    refine lv_iload_n hx hb dX5_byteAt_12 rfl (lv_at hl 1 rfl) ?_
    refine lMo_6 Cc hPt h.1 dX5_byteAt_13 ?_
    have h := h.2
    refine lv_goto (tgt := 18) hx hb dX5_byteAt_14 (by decide) ?_
    exact bX5_byteAt_18 Cc hPt (σ 6 x1.toNatClampNeg)  _ (lv_sub hl [] rfl) h
theorem qX5_byteAt {R : Room} {s : State} {args : Array Value} {own : String} {idx : Nat} (hts : ∀ w ∈ gG, w.before args s = true) (hl : (Cond.methodLink own idx yX5_byteAt).before args s = true) (hR : rX5_byteAt.frames + 1 ≤ R.frames ∧ 8 + (2 + 11) + rX5_byteAt.locals ≤ R.locals) : CallW R s args own RX5 idx yX5_byteAt cX5_byteAt 2 (some .int) (wz yX5_byteAt cX5_byteAt 2 (some .int)) rX5_byteAt 0 0 1 := ⟨kw 1 hts mw_1137 rfl rfl (tw_75 hts) hl (by decide +kernel) hR, tw_1136 hts, tw_60 hts⟩
abbrev rX5_token : Room := { frames := 1, cells := 0, slots := 0, locals := 22 }
def pX5_token_206 (Q : Mx → Prop) (σ : Mx) : Prop := Q σ
def pX5_token_84s  (ih84 : Mx → Prop) (Q : Mx → Prop) (σ : Mx) : Prop := pX5_byteAt σ (σ 9 0) (fun r89 => (pX5_within r89 97 122 (fun r96 => ((r96 = 0 → (pX5_token_206 Q σ)) ∧ (¬ r96 = 0 → (ih84 (st σ 9 0 ((σ 9 0) + 1))))))))
noncomputable def pX5_token_84 (Q : Mx → Prop) (n : Nat) : Mx → Prop := Nat.rec (motive := fun _ => Mx → Prop) (fun _ => False) (fun _ ih => pX5_token_84s ih Q) n
def pX5_token_131s  (ih131 : Mx → Prop) (Q : Mx → Prop) (σ : Mx) : Prop := pX5_byteAt σ (σ 9 0) (fun r136 => (pX5_within r136 48 57 (fun r143 => ((r143 = 0 → (pX5_token_206 Q σ)) ∧ (¬ r143 = 0 → (pX5_byteAt σ (σ 9 0) (fun r165 => (∀ v172 : Int32, v172 = (if (((10 * (σ 11 0)) + r165) - 48) < 10000 then (((10 * (σ 11 0)) + r165) - 48) else 10000) → (ih131 (st (st σ 11 0 v172) 9 0 (((st σ 11 0 v172) 9 0) + 1)))))))))))
noncomputable def pX5_token_131 (Q : Mx → Prop) (n : Nat) : Mx → Prop := Nat.rec (motive := fun _ => Mx → Prop) (fun _ => False) (fun _ ih => pX5_token_131s ih Q) n
def pX5_token_8s  (ih8 : Mx → Prop) (Q : Mx → Prop) (σ : Mx) : Prop := pX5_byteAt σ (σ 8 0) (fun r13 => ((¬ r13 = 32 → (pX5_byteAt σ (σ 8 0) (fun r39 => ((0 ≤ r39 → (pX5_within r39 97 122 (fun r73 => ((r73 = 0 → (pX5_within r39 48 57 (fun r120 => ((r120 = 0 → (pX5_token_206 Q (st (st (st (st σ 9 0 (σ 8 0)) 11 0 0) 10 0 3) 9 0 (((st (st (st σ 9 0 (σ 8 0)) 11 0 0) 10 0 3) 9 0) + 1)))) ∧ (¬ r120 = 0 → (∃ n, pX5_token_131 Q n (st (st (st σ 9 0 (σ 8 0)) 11 0 0) 10 0 2))))))) ∧ (¬ r73 = 0 → (∃ n, pX5_token_84 Q n (st (st (st σ 9 0 (σ 8 0)) 11 0 0) 10 0 1))))))) ∧ (¬ 0 ≤ r39 → (pX5_token_206 Q (st (st (st σ 9 0 (σ 8 0)) 11 0 0) 10 0 0))))))) ∧ (r13 = 32 → (ih8 (st σ 8 0 ((σ 8 0) + 1))))))
noncomputable def pX5_token_8 (Q : Mx → Prop) (n : Nat) : Mx → Prop := Nat.rec (motive := fun _ => Mx → Prop) (fun _ => False) (fun _ ih => pX5_token_8s ih Q) n
def pX5_token (σ : Mx)  (Q : Mx → Prop) : Prop := ∃ n, pX5_token_8 Q n (st σ 8 0 (σ 9 0))
set_option maxHeartbeats 4000000 in
set_option maxRecDepth 100000 in
theorem bX5_token_206 {p : Program} {l : Launch} {e : Env} {s : State} {m : MethodId} {args : Array Value} {below : List Frame} {meth : Method} {c : Code} {D : va_G} {κ : Nat → ClassId} {τ : Nat → Nat} {a : Nat → Nat}   {Q : Mx → Prop} (Cc : Cx D κ RX5 cX5_token 2 none p s m args meth c) (hIt : Ij a 13)   : ∀ (σ : Mx) (H : Heap) (locs : List Loc) (hPt : va_P D classes (wMo κ τ a σ) H) (hS : va_S (cA a 13) s.heap H locs) (ls : Array Slot) (hl : lv_has ls 2 []) (h : pX5_token_206 Q σ), W p l e rX5_token s m args below meth c H locs 0 0 (MQ below (QWv Q (fun u H => va_P D classes (wMo κ τ a u) H) (cA a 13)) args s 0 0 (cA a 13)) (F0 m 206 ls []) := by
  obtain ⟨hx, hb, hml, hown, hts, hr, hlk, hE⟩ := id Cc
  intro σ H locs hPt hS ls hl h
  unfold pX5_token_206 at h
  exact W.vret hx hb hr (fun t ht _ => QWv.mk (u := σ) h hPt hS ht) hS.2.2 dX5_token_206 (hlocks := hlk)
set_option maxHeartbeats 4000000 in
set_option maxRecDepth 100000 in
theorem bX5_token_84 {p : Program} {l : Launch} {e : Env} {s : State} {m : MethodId} {args : Array Value} {below : List Frame} {meth : Method} {c : Code} {D : va_G} {κ : Nat → ClassId} {τ : Nat → Nat} {a : Nat → Nat}   {Q : Mx → Prop} (Cc : Cx D κ RX5 cX5_token 2 none p s m args meth c) (hIt : Ij a 13)   (n : Nat) : ∀ (σ : Mx) (H : Heap) (locs : List Loc) (hPt : va_P D classes (wMo κ τ a σ) H) (hS : va_S (cA a 13) s.heap H locs) (ls : Array Slot) (hl : lv_has ls 2 [(0, .ref (a 0))]) (h : pX5_token_84 Q n σ), W p l e rX5_token s m args below meth c H locs 0 0 (MQ below (QWv Q (fun u H => va_P D classes (wMo κ τ a u) H) (cA a 13)) args s 0 0 (cA a 13)) (F0 m 84 ls []) := by
  obtain ⟨hx, hb, hml, hown, hts, hr, hlk, hE⟩ := id Cc
  induction n with
  | zero =>
    intro σ H locs hPt hS ls hl h
    exact absurd h (fun z => z)
  | succ n hih84 =>
    intro σ H locs hPt hS ls hl h
    have h : pX5_token_84s (pX5_token_84 Q n) Q σ := h
    unfold pX5_token_84s at h
    refine lv_aload_n hx hb dX5_token_84 rfl (lv_at hl 0 rfl) ?_
    refine lv_aload_n hx hb dX5_token_85 rfl (lv_at hl 0 rfl) ?_
    refine gMo_9 Cc hPt (tw_770 hts) dX5_token_86 ?_
    refine kR (kV Cc (mX5_byteAt l D κ τ a h) (qX5_byteAt hts (tw_1134 hts) ⟨(Nat.le_of_ble_eq_true rfl), (Nat.le_of_ble_eq_true rfl)⟩) (va_recv hE.1 hPt (ci := 5) (q0 := 0) rfl rfl) (rest := []) hPt rfl hl.1 rfl (Nat.le_of_ble_eq_true rfl) dX5_token_89 ⟨Nat.zero_le _, Nat.zero_le _⟩) (fun r89 h => ?_)
    refine lv_bipush (v := 97) hx hb dX5_token_92 (by decide) ?_
    refine lv_bipush (v := 122) hx hb dX5_token_94 (by decide) ?_
    refine kR (kS Cc (mX5_within l D κ h) (qX5_within hts (tw_832 hts) ⟨(Nat.le_of_ble_eq_true rfl), (Nat.le_of_ble_eq_true rfl)⟩) (rest := []) trivial rfl hl.1 rfl (Nat.le_of_ble_eq_true rfl) dX5_token_96 ⟨Nat.zero_le _, Nat.zero_le _⟩) (fun r96 h => ?_)
    refine lv_if_eq (tgt := 206) hx hb dX5_token_99 (by decide) (fun c99 => ?_) (fun c99 => ?_)
    · have h := h.1 c99
      exact bX5_token_206 Cc hIt σ _ _ hPt hS _ (lv_sub hl [] rfl) h
    · have h := h.2 c99
      refine lv_aload_n hx hb dX5_token_102 rfl (lv_at hl 0 rfl) ?_
      refine lv_dup hx hb dX5_token_103 rfl ?_
      refine gMo_9 Cc hPt (tw_770 hts) dX5_token_104 ?_
      refine lv_iconst (v := 1) hx hb dX5_token_107 (by decide) ?_
      refine lv_iadd hx hb dX5_token_108 ?_
      refine uMo_9 Cc hPt hIt hS ⟨0, by decide, rfl⟩ (tw_770 hts) dX5_token_109 (fun H1 locs1 hB hS1 hk => ?_)
      have hPt := hB
      have hS := hS1
      refine lv_goto (tgt := 84) hx hb dX5_token_112 (by decide) ?_
      exact hih84 (st σ 9 0 ((σ 9 0) + 1)) _ _ hPt hS _ (lv_sub hl [0] rfl) h
set_option maxHeartbeats 4000000 in
set_option maxRecDepth 100000 in
theorem bX5_token_131 {p : Program} {l : Launch} {e : Env} {s : State} {m : MethodId} {args : Array Value} {below : List Frame} {meth : Method} {c : Code} {D : va_G} {κ : Nat → ClassId} {τ : Nat → Nat} {a : Nat → Nat}   {Q : Mx → Prop} (Cc : Cx D κ RX5 cX5_token 2 none p s m args meth c) (hIt : Ij a 13)   (n : Nat) : ∀ (σ : Mx) (H : Heap) (locs : List Loc) (hPt : va_P D classes (wMo κ τ a σ) H) (hS : va_S (cA a 13) s.heap H locs) (ls : Array Slot) (hl : lv_has ls 2 [(0, .ref (a 0))]) (h : pX5_token_131 Q n σ), W p l e rX5_token s m args below meth c H locs 0 0 (MQ below (QWv Q (fun u H => va_P D classes (wMo κ τ a u) H) (cA a 13)) args s 0 0 (cA a 13)) (F0 m 131 ls []) := by
  obtain ⟨hx, hb, hml, hown, hts, hr, hlk, hE⟩ := id Cc
  induction n with
  | zero =>
    intro σ H locs hPt hS ls hl h
    exact absurd h (fun z => z)
  | succ n hih131 =>
    intro σ H locs hPt hS ls hl h
    have h : pX5_token_131s (pX5_token_131 Q n) Q σ := h
    unfold pX5_token_131s at h
    refine lv_aload_n hx hb dX5_token_131 rfl (lv_at hl 0 rfl) ?_
    refine lv_aload_n hx hb dX5_token_132 rfl (lv_at hl 0 rfl) ?_
    refine gMo_9 Cc hPt (tw_770 hts) dX5_token_133 ?_
    refine kR (kV Cc (mX5_byteAt l D κ τ a h) (qX5_byteAt hts (tw_1134 hts) ⟨(Nat.le_of_ble_eq_true rfl), (Nat.le_of_ble_eq_true rfl)⟩) (va_recv hE.1 hPt (ci := 5) (q0 := 0) rfl rfl) (rest := []) hPt rfl hl.1 rfl (Nat.le_of_ble_eq_true rfl) dX5_token_136 ⟨Nat.zero_le _, Nat.zero_le _⟩) (fun r136 h => ?_)
    refine lv_bipush (v := 48) hx hb dX5_token_139 (by decide) ?_
    refine lv_bipush (v := 57) hx hb dX5_token_141 (by decide) ?_
    refine kR (kS Cc (mX5_within l D κ h) (qX5_within hts (tw_832 hts) ⟨(Nat.le_of_ble_eq_true rfl), (Nat.le_of_ble_eq_true rfl)⟩) (rest := []) trivial rfl hl.1 rfl (Nat.le_of_ble_eq_true rfl) dX5_token_143 ⟨Nat.zero_le _, Nat.zero_le _⟩) (fun r143 h => ?_)
    refine lv_if_eq (tgt := 206) hx hb dX5_token_146 (by decide) (fun c146 => ?_) (fun c146 => ?_)
    · have h := h.1 c146
      exact bX5_token_206 Cc hIt σ _ _ hPt hS _ (lv_sub hl [] rfl) h
    · have h := h.2 c146
      refine lv_aload_n hx hb dX5_token_149 rfl (lv_at hl 0 rfl) ?_
      refine lv_sipush (v := 10000) hx hb dX5_token_150 (by decide) ?_
      refine lv_bipush (v := 10) hx hb dX5_token_153 (by decide) ?_
      refine lv_aload_n hx hb dX5_token_155 rfl (lv_at hl 0 rfl) ?_
      refine gMo_11 Cc hPt (tw_772 hts) dX5_token_156 ?_
      refine lv_imul hx hb dX5_token_159 ?_
      refine lv_aload_n hx hb dX5_token_160 rfl (lv_at hl 0 rfl) ?_
      refine lv_aload_n hx hb dX5_token_161 rfl (lv_at hl 0 rfl) ?_
      refine gMo_9 Cc hPt (tw_770 hts) dX5_token_162 ?_
      refine kR (kV Cc (mX5_byteAt l D κ τ a h) (qX5_byteAt hts (tw_1134 hts) ⟨(Nat.le_of_ble_eq_true rfl), (Nat.le_of_ble_eq_true rfl)⟩) (va_recv hE.1 hPt (ci := 5) (q0 := 0) rfl rfl) (rest := [.int (10 * (σ 11 0)), .int 10000, .ref (a 0)]) hPt rfl hl.1 rfl (Nat.le_of_ble_eq_true rfl) dX5_token_165 ⟨Nat.zero_le _, Nat.zero_le _⟩) (fun r165 h => ?_)
      refine lv_iadd hx hb dX5_token_168 ?_
      refine lv_bipush (v := 48) hx hb dX5_token_169 (by decide) ?_
      refine lv_isub hx hb dX5_token_171 ?_
      refine va_mmin hx hb (hml.trans hl.1.symm) hown (tw_959 hts) (tw_417 hts) (tw_76 hts) (tw_418 hts) (Nat.le_of_ble_eq_true rfl) (Nat.le_of_ble_eq_true rfl) (Nat.zero_le _) (Nat.zero_le _) dX5_token_172 ?_
      refine lv_topi (fun v172 e172 => ?_)
      have h := h v172 e172
      refine uMo_11 Cc hPt hIt hS ⟨0, by decide, rfl⟩ (tw_772 hts) dX5_token_175 (fun H1 locs1 hB hS1 hk => ?_)
      have hPt := hB
      have hS := hS1
      refine lv_aload_n hx hb dX5_token_178 rfl (lv_at hl 0 rfl) ?_
      refine lv_dup hx hb dX5_token_179 rfl ?_
      refine gMo_9 Cc hPt (tw_770 hts) dX5_token_180 ?_
      refine lv_iconst (v := 1) hx hb dX5_token_183 (by decide) ?_
      refine lv_iadd hx hb dX5_token_184 ?_
      refine uMo_9 Cc hPt hIt hS ⟨0, by decide, rfl⟩ (tw_770 hts) dX5_token_185 (fun H1 locs1 hB hS1 hk => ?_)
      have hPt := hB
      have hS := hS1
      refine lv_goto (tgt := 131) hx hb dX5_token_188 (by decide) ?_
      exact hih131 (st (st σ 11 0 v172) 9 0 (((st σ 11 0 v172) 9 0) + 1)) _ _ hPt hS _ (lv_sub hl [0] rfl) h
set_option maxHeartbeats 4000000 in
set_option maxRecDepth 100000 in
theorem bX5_token_8 {p : Program} {l : Launch} {e : Env} {s : State} {m : MethodId} {args : Array Value} {below : List Frame} {meth : Method} {c : Code} {D : va_G} {κ : Nat → ClassId} {τ : Nat → Nat} {a : Nat → Nat}   {Q : Mx → Prop} (Cc : Cx D κ RX5 cX5_token 2 none p s m args meth c) (hIt : Ij a 13)   (n : Nat) : ∀ (σ : Mx) (H : Heap) (locs : List Loc) (hPt : va_P D classes (wMo κ τ a σ) H) (hS : va_S (cA a 13) s.heap H locs) (ls : Array Slot) (hl : lv_has ls 2 [(0, .ref (a 0))]) (h : pX5_token_8 Q n σ), W p l e rX5_token s m args below meth c H locs 0 0 (MQ below (QWv Q (fun u H => va_P D classes (wMo κ τ a u) H) (cA a 13)) args s 0 0 (cA a 13)) (F0 m 8 ls []) := by
  obtain ⟨hx, hb, hml, hown, hts, hr, hlk, hE⟩ := id Cc
  induction n with
  | zero =>
    intro σ H locs hPt hS ls hl h
    exact absurd h (fun z => z)
  | succ n hih8 =>
    intro σ H locs hPt hS ls hl h
    have h : pX5_token_8s (pX5_token_8 Q n) Q σ := h
    unfold pX5_token_8s at h
    refine lv_aload_n hx hb dX5_token_8 rfl (lv_at hl 0 rfl) ?_
    refine lv_aload_n hx hb dX5_token_9 rfl (lv_at hl 0 rfl) ?_
    refine gMo_8 Cc hPt (tw_769 hts) dX5_token_10 ?_
    refine kR (kV Cc (mX5_byteAt l D κ τ a h) (qX5_byteAt hts (tw_1134 hts) ⟨(Nat.le_of_ble_eq_true rfl), (Nat.le_of_ble_eq_true rfl)⟩) (va_recv hE.1 hPt (ci := 5) (q0 := 0) rfl rfl) (rest := []) hPt rfl hl.1 rfl (Nat.le_of_ble_eq_true rfl) dX5_token_13 ⟨Nat.zero_le _, Nat.zero_le _⟩) (fun r13 h => ?_)
    refine lv_bipush (v := 32) hx hb dX5_token_16 (by decide) ?_
    refine lv_icmp_ne (tgt := 34) hx hb dX5_token_18 (by decide) (fun c18 => ?_) (fun c18 => ?_)
    · have h := h.1 c18
      refine lv_aload_n hx hb dX5_token_34 rfl (lv_at hl 0 rfl) ?_
      refine lv_aload_n hx hb dX5_token_35 rfl (lv_at hl 0 rfl) ?_
      refine gMo_8 Cc hPt (tw_769 hts) dX5_token_36 ?_
      refine kR (kV Cc (mX5_byteAt l D κ τ a h) (qX5_byteAt hts (tw_1134 hts) ⟨(Nat.le_of_ble_eq_true rfl), (Nat.le_of_ble_eq_true rfl)⟩) (va_recv hE.1 hPt (ci := 5) (q0 := 0) rfl rfl) (rest := []) hPt rfl hl.1 rfl (Nat.le_of_ble_eq_true rfl) dX5_token_39 ⟨Nat.zero_le _, Nat.zero_le _⟩) (fun r39 h => ?_)
      refine lv_istore_n (lv' := [(1, .int r39), (0, .ref (a 0))]) hx hb dX5_token_42 rfl hl (by decide) rfl (fun ls hl => ?_)
      refine lv_aload_n hx hb dX5_token_43 rfl (lv_at hl 1 rfl) ?_
      refine lv_aload_n hx hb dX5_token_44 rfl (lv_at hl 1 rfl) ?_
      refine gMo_8 Cc hPt (tw_769 hts) dX5_token_45 ?_
      refine uMo_9 Cc hPt hIt hS ⟨0, by decide, rfl⟩ (tw_770 hts) dX5_token_48 (fun H1 locs1 hB hS1 hk => ?_)
      have hPt := hB
      have hS := hS1
      refine lv_aload_n hx hb dX5_token_51 rfl (lv_at hl 1 rfl) ?_
      refine lv_iconst (v := 0) hx hb dX5_token_52 (by decide) ?_
      refine uMo_11 Cc hPt hIt hS ⟨0, by decide, rfl⟩ (tw_772 hts) dX5_token_53 (fun H1 locs1 hB hS1 hk => ?_)
      have hPt := hB
      have hS := hS1
      refine lv_iload_n hx hb dX5_token_56 rfl (lv_at hl 0 rfl) ?_
      refine lv_if_ge (tgt := 68) hx hb dX5_token_57 (by decide) (fun c57 => ?_) (fun c57 => ?_)
      · have h := h.1 c57
        refine lv_iload_n hx hb dX5_token_68 rfl (lv_at hl 0 rfl) ?_
        refine lv_bipush (v := 97) hx hb dX5_token_69 (by decide) ?_
        refine lv_bipush (v := 122) hx hb dX5_token_71 (by decide) ?_
        refine kR (kS Cc (mX5_within l D κ h) (qX5_within hts (tw_832 hts) ⟨(Nat.le_of_ble_eq_true rfl), (Nat.le_of_ble_eq_true rfl)⟩) (rest := []) trivial rfl hl.1 rfl (Nat.le_of_ble_eq_true rfl) dX5_token_73 ⟨Nat.zero_le _, Nat.zero_le _⟩) (fun r73 h => ?_)
        refine lv_if_eq (tgt := 115) hx hb dX5_token_76 (by decide) (fun c76 => ?_) (fun c76 => ?_)
        · have h := h.1 c76
          refine lv_iload_n hx hb dX5_token_115 rfl (lv_at hl 0 rfl) ?_
          refine lv_bipush (v := 48) hx hb dX5_token_116 (by decide) ?_
          refine lv_bipush (v := 57) hx hb dX5_token_118 (by decide) ?_
          refine kR (kS Cc (mX5_within l D κ h) (qX5_within hts (tw_832 hts) ⟨(Nat.le_of_ble_eq_true rfl), (Nat.le_of_ble_eq_true rfl)⟩) (rest := []) trivial rfl hl.1 rfl (Nat.le_of_ble_eq_true rfl) dX5_token_120 ⟨Nat.zero_le _, Nat.zero_le _⟩) (fun r120 h => ?_)
          refine lv_if_eq (tgt := 191) hx hb dX5_token_123 (by decide) (fun c123 => ?_) (fun c123 => ?_)
          · have h := h.1 c123
            refine lv_aload_n hx hb dX5_token_191 rfl (lv_at hl 1 rfl) ?_
            refine lv_iconst (v := 3) hx hb dX5_token_192 (by decide) ?_
            refine uMo_10 Cc hPt hIt hS ⟨0, by decide, rfl⟩ (tw_771 hts) dX5_token_193 (fun H1 locs1 hB hS1 hk => ?_)
            have hPt := hB
            have hS := hS1
            refine lv_aload_n hx hb dX5_token_196 rfl (lv_at hl 1 rfl) ?_
            refine lv_dup hx hb dX5_token_197 rfl ?_
            refine gMo_9 Cc hPt (tw_770 hts) dX5_token_198 ?_
            refine lv_iconst (v := 1) hx hb dX5_token_201 (by decide) ?_
            refine lv_iadd hx hb dX5_token_202 ?_
            refine uMo_9 Cc hPt hIt hS ⟨0, by decide, rfl⟩ (tw_770 hts) dX5_token_203 (fun H1 locs1 hB hS1 hk => ?_)
            have hPt := hB
            have hS := hS1
            exact bX5_token_206 Cc hIt (st (st (st (st σ 9 0 (σ 8 0)) 11 0 0) 10 0 3) 9 0 (((st (st (st σ 9 0 (σ 8 0)) 11 0 0) 10 0 3) 9 0) + 1)) _ _ hPt hS _ (lv_sub hl [] rfl) h
          · have h := h.2 c123
            refine lv_aload_n hx hb dX5_token_126 rfl (lv_at hl 1 rfl) ?_
            refine lv_iconst (v := 2) hx hb dX5_token_127 (by decide) ?_
            refine uMo_10 Cc hPt hIt hS ⟨0, by decide, rfl⟩ (tw_771 hts) dX5_token_128 (fun H1 locs1 hB hS1 hk => ?_)
            have hPt := hB
            have hS := hS1
            obtain ⟨n, h⟩ := h
            exact bX5_token_131 Cc hIt n (st (st (st σ 9 0 (σ 8 0)) 11 0 0) 10 0 2) _ _ hPt hS _ (lv_sub hl [1] rfl) h
        · have h := h.2 c76
          refine lv_aload_n hx hb dX5_token_79 rfl (lv_at hl 1 rfl) ?_
          refine lv_iconst (v := 1) hx hb dX5_token_80 (by decide) ?_
          refine uMo_10 Cc hPt hIt hS ⟨0, by decide, rfl⟩ (tw_771 hts) dX5_token_81 (fun H1 locs1 hB hS1 hk => ?_)
          have hPt := hB
          have hS := hS1
          obtain ⟨n, h⟩ := h
          exact bX5_token_84 Cc hIt n (st (st (st σ 9 0 (σ 8 0)) 11 0 0) 10 0 1) _ _ hPt hS _ (lv_sub hl [1] rfl) h
      · have h := h.2 c57
        refine lv_aload_n hx hb dX5_token_60 rfl (lv_at hl 1 rfl) ?_
        refine lv_iconst (v := 0) hx hb dX5_token_61 (by decide) ?_
        refine uMo_10 Cc hPt hIt hS ⟨0, by decide, rfl⟩ (tw_771 hts) dX5_token_62 (fun H1 locs1 hB hS1 hk => ?_)
        have hPt := hB
        have hS := hS1
        refine lv_goto (tgt := 206) hx hb dX5_token_65 (by decide) ?_
        exact bX5_token_206 Cc hIt (st (st (st σ 9 0 (σ 8 0)) 11 0 0) 10 0 0) _ _ hPt hS _ (lv_sub hl [] rfl) h
    · have h := h.2 c18
      refine lv_aload_n hx hb dX5_token_21 rfl (lv_at hl 0 rfl) ?_
      refine lv_dup hx hb dX5_token_22 rfl ?_
      refine gMo_8 Cc hPt (tw_769 hts) dX5_token_23 ?_
      refine lv_iconst (v := 1) hx hb dX5_token_26 (by decide) ?_
      refine lv_iadd hx hb dX5_token_27 ?_
      refine uMo_8 Cc hPt hIt hS ⟨0, by decide, rfl⟩ (tw_769 hts) dX5_token_28 (fun H1 locs1 hB hS1 hk => ?_)
      have hPt := hB
      have hS := hS1
      refine lv_goto (tgt := 8) hx hb dX5_token_31 (by decide) ?_
      exact hih8 (st σ 8 0 ((σ 8 0) + 1)) _ _ hPt hS _ (lv_sub hl [0] rfl) h
set_option maxHeartbeats 4000000 in
set_option maxRecDepth 100000 in
theorem mX5_token (l : Launch) (D : va_G) (κ : Nat → ClassId) (τ : Nat → Nat) (a : Nat → Nat) {σ : Mx}  {Q : Mx → Prop} (hIt : Ij a 13) (h : pX5_token σ  Q) : Met l yX5_token (wz yX5_token cX5_token 2 none) rX5_token (va_Pc [.ref (a 0)] (PE D κ (fun H => va_P D classes (wMo κ τ a σ) H))) (QWv Q (fun u H => va_P D classes (wMo κ τ a u) H) (cA a 13)) 0 0 (cA a 13) := by
  refine Met_of l (own := RX5) (by decide) rfl (Nat.le_of_ble_eq_true rfl) (fun p e s m below meth c Cc hPP ls hl => ?_)
  obtain ⟨hx, hb, hml, hown, hts, hr, hlk, hE⟩ := id Cc
  have hl : lv_has ls 2 [(0, .ref (a 0))] := hl
  have hPt := hPP
  have hS : va_S (cA a 13) s.heap s.heap [] := va_S.rf
  unfold pX5_token at h
  refine lv_aload_n hx hb dX5_token_0 rfl (lv_at hl 0 rfl) ?_
  refine lv_aload_n hx hb dX5_token_1 rfl (lv_at hl 0 rfl) ?_
  refine gMo_9 Cc hPt (tw_770 hts) dX5_token_2 ?_
  refine uMo_8 Cc hPt hIt hS ⟨0, by decide, rfl⟩ (tw_769 hts) dX5_token_5 (fun H1 locs1 hB hS1 hk => ?_)
  have hPt := hB
  have hS := hS1
  obtain ⟨n, h⟩ := h
  exact bX5_token_8 Cc hIt n (st σ 8 0 (σ 9 0)) _ _ hPt hS _ (lv_sub hl [0] rfl) h
theorem qX5_token {R : Room} {s : State} {args : Array Value} {own : String} {idx : Nat} (hts : ∀ w ∈ gG, w.before args s = true) (hl : (Cond.methodLink own idx yX5_token).before args s = true) (hR : rX5_token.frames + 1 ≤ R.frames ∧ 8 + (2 + 11) + rX5_token.locals ≤ R.locals) : CallW R s args own RX5 idx yX5_token cX5_token 2 none (wz yX5_token cX5_token 2 none) rX5_token 0 0 0 := ⟨kw 0 hts mw_1133 rfl rfl (tw_75 hts) hl (by decide +kernel) hR, tw_1132 hts, tw_59 hts⟩
abbrev rX5_must : Room := { frames := 2, cells := 0, slots := 0, locals := 43 }
def pX5_must_31 (Q : Mx → Prop) (σ : Mx) : Prop := Q σ
def pX5_must_17 (Q : Mx → Prop) (y0 : Int32) (σ : Mx) : Prop := (y0 = 0 ∨ y0 = 1) ∧ ((¬ ((st σ 12 0 y0) 12 0) = 0 → (pX5_must_31 Q (st σ 12 0 y0))) ∧ (((st σ 12 0 y0) 12 0) = 0 → (pX5_token (st σ 12 0 y0) (fun u28 => (pX5_must_31 Q u28)))))
def pX5_must_12 (Q : Mx → Prop) (σ : Mx) : Prop := pX5_must_17 Q 1 σ
def pX5_must (σ : Mx) (x1 : Int32) (Q : Mx → Prop) : Prop := (¬ (σ 12 0) = 0 → (pX5_must_12 Q σ)) ∧ ((σ 12 0) = 0 → ((¬ x1 = 0 → (pX5_must_17 Q 0 σ)) ∧ (x1 = 0 → (pX5_must_12 Q σ))))
set_option maxHeartbeats 4000000 in
set_option maxRecDepth 100000 in
theorem bX5_must_31 {p : Program} {l : Launch} {e : Env} {s : State} {m : MethodId} {args : Array Value} {below : List Frame} {meth : Method} {c : Code} {D : va_G} {κ : Nat → ClassId} {τ : Nat → Nat} {a : Nat → Nat}   {Q : Mx → Prop} (Cc : Cx D κ RX5 cX5_must 2 none p s m args meth c) (hIt : Ij a 13)   : ∀ (σ : Mx) (H : Heap) (locs : List Loc) (hPt : va_P D classes (wMo κ τ a σ) H) (hS : va_S (cA a 13) s.heap H locs) (ls : Array Slot) (hl : lv_has ls 2 []) (h : pX5_must_31 Q σ), W p l e rX5_must s m args below meth c H locs 0 0 (MQ below (QWv Q (fun u H => va_P D classes (wMo κ τ a u) H) (cA a 13)) args s 0 0 (cA a 13)) (F0 m 31 ls []) := by
  obtain ⟨hx, hb, hml, hown, hts, hr, hlk, hE⟩ := id Cc
  intro σ H locs hPt hS ls hl h
  unfold pX5_must_31 at h
  exact W.vret hx hb hr (fun t ht _ => QWv.mk (u := σ) h hPt hS ht) hS.2.2 dX5_must_31 (hlocks := hlk)
set_option maxHeartbeats 4000000 in
set_option maxRecDepth 100000 in
theorem bX5_must_17 {p : Program} {l : Launch} {e : Env} {s : State} {m : MethodId} {args : Array Value} {below : List Frame} {meth : Method} {c : Code} {D : va_G} {κ : Nat → ClassId} {τ : Nat → Nat} {a : Nat → Nat}   {Q : Mx → Prop} (Cc : Cx D κ RX5 cX5_must 2 none p s m args meth c) (hIt : Ij a 13)   : ∀ (y0 : Int32) (σ : Mx) (H : Heap) (locs : List Loc) (hPt : va_P D classes (wMo κ τ a σ) H) (hS : va_S (cA a 13) s.heap H locs) (ls : Array Slot) (hl : lv_has ls 2 [(0, .ref (a 0))]) (h : pX5_must_17 Q y0 σ), W p l e rX5_must s m args below meth c H locs 0 0 (MQ below (QWv Q (fun u H => va_P D classes (wMo κ τ a u) H) (cA a 13)) args s 0 0 (cA a 13)) (F0 m 17 ls [.int y0, .ref (a 0)]) := by
  obtain ⟨hx, hb, hml, hown, hts, hr, hlk, hE⟩ := id Cc
  intro y0 σ H locs hPt hS ls hl h
  unfold pX5_must_17 at h
  refine uMo_12 Cc hPt hIt hS ⟨0, by decide, rfl⟩ (tw_773 hts) (bool_fit h.1) dX5_must_17 (fun H1 locs1 hB hS1 hk => ?_)
  have h := h.2
  have hPt := hB
  have hS := hS1
  refine lv_aload_n hx hb dX5_must_20 rfl (lv_at hl 0 rfl) ?_
  refine gMo_12 Cc hPt (tw_773 hts) dX5_must_21 ?_
  refine lv_if_ne (tgt := 31) hx hb dX5_must_24 (by decide) (fun c24 => ?_) (fun c24 => ?_)
  · have h := h.1 c24
    exact bX5_must_31 Cc hIt (st σ 12 0 y0) _ _ hPt hS _ (lv_sub hl [] rfl) h
  · have h := h.2 c24
    refine lv_aload_n hx hb dX5_must_27 rfl (lv_at hl 0 rfl) ?_
    refine kWv (kV Cc (mX5_token l D κ τ a hIt h) (qX5_token hts (tw_1130 hts) ⟨(Nat.le_of_ble_eq_true rfl), (Nat.le_of_ble_eq_true rfl)⟩) (va_recv hE.1 hPt (ci := 5) (q0 := 0) rfl rfl) (rest := []) hPt rfl hl.1 rfl (Nat.le_of_ble_eq_true rfl) dX5_must_28 ⟨Nat.zero_le _, Nat.zero_le _⟩) hS (fun q h9 => h9) (fun  u28 H1 locs1 h hB hk hS1 => ?_)
    have hPt := hB
    have hS := hS1
    exact bX5_must_31 Cc hIt u28 _ _ hPt hS _ (lv_sub hl [] rfl) h
set_option maxHeartbeats 4000000 in
set_option maxRecDepth 100000 in
theorem bX5_must_12 {p : Program} {l : Launch} {e : Env} {s : State} {m : MethodId} {args : Array Value} {below : List Frame} {meth : Method} {c : Code} {D : va_G} {κ : Nat → ClassId} {τ : Nat → Nat} {a : Nat → Nat}   {Q : Mx → Prop} (Cc : Cx D κ RX5 cX5_must 2 none p s m args meth c) (hIt : Ij a 13)   : ∀ (σ : Mx) (H : Heap) (locs : List Loc) (hPt : va_P D classes (wMo κ τ a σ) H) (hS : va_S (cA a 13) s.heap H locs) (ls : Array Slot) (hl : lv_has ls 2 [(0, .ref (a 0))]) (h : pX5_must_12 Q σ), W p l e rX5_must s m args below meth c H locs 0 0 (MQ below (QWv Q (fun u H => va_P D classes (wMo κ τ a u) H) (cA a 13)) args s 0 0 (cA a 13)) (F0 m 12 ls [.ref (a 0)]) := by
  obtain ⟨hx, hb, hml, hown, hts, hr, hlk, hE⟩ := id Cc
  intro σ H locs hPt hS ls hl h
  unfold pX5_must_12 at h
  refine lv_iconst (v := 1) hx hb dX5_must_12 (by decide) ?_
  refine lv_goto (tgt := 17) hx hb dX5_must_13 (by decide) ?_
  exact bX5_must_17 Cc hIt 1 σ _ _ hPt hS _ (lv_sub hl [0] rfl) h
set_option maxHeartbeats 4000000 in
set_option maxRecDepth 100000 in
theorem mX5_must (l : Launch) (D : va_G) (κ : Nat → ClassId) (τ : Nat → Nat) (a : Nat → Nat) {σ : Mx} {x1 : Int32} {Q : Mx → Prop} (hIt : Ij a 13) (h : pX5_must σ x1 Q) : Met l yX5_must (wz yX5_must cX5_must 2 none) rX5_must (va_Pc [.ref (a 0), .int x1] (PE D κ (fun H => va_P D classes (wMo κ τ a σ) H))) (QWv Q (fun u H => va_P D classes (wMo κ τ a u) H) (cA a 13)) 0 0 (cA a 13) := by
  refine Met_of l (own := RX5) (by decide) rfl (Nat.le_of_ble_eq_true rfl) (fun p e s m below meth c Cc hPP ls hl => ?_)
  obtain ⟨hx, hb, hml, hown, hts, hr, hlk, hE⟩ := id Cc
  have hl : lv_has ls 2 [(0, .ref (a 0)), (1, .int x1)] := hl
  have hPt := hPP
  have hS : va_S (cA a 13) s.heap s.heap [] := va_S.rf
  unfold pX5_must at h
  refine lv_aload_n hx hb dX5_must_0 rfl (lv_at hl 0 rfl) ?_
  refine lv_aload_n hx hb dX5_must_1 rfl (lv_at hl 0 rfl) ?_
  refine gMo_12 Cc hPt (tw_773 hts) dX5_must_2 ?_
  refine lv_if_ne (tgt := 12) hx hb dX5_must_5 (by decide) (fun c5 => ?_) (fun c5 => ?_)
  · have h := h.1 c5
    exact bX5_must_12 Cc hIt σ _ _ hPt hS _ (lv_sub hl [0] rfl) h
  · have h := h.2 c5
    refine lv_iload_n hx hb dX5_must_8 rfl (lv_at hl 1 rfl) ?_
    refine lv_if_ne (tgt := 16) hx hb dX5_must_9 (by decide) (fun c9 => ?_) (fun c9 => ?_)
    · have h := h.1 c9
      refine lv_iconst (v := 0) hx hb dX5_must_16 (by decide) ?_
      exact bX5_must_17 Cc hIt 0 σ _ _ hPt hS _ (lv_sub hl [0] rfl) h
    · have h := h.2 c9
      exact bX5_must_12 Cc hIt σ _ _ hPt hS _ (lv_sub hl [0] rfl) h
theorem qX5_must {R : Room} {s : State} {args : Array Value} {own : String} {idx : Nat} (hts : ∀ w ∈ gG, w.before args s = true) (hl : (Cond.methodLink own idx yX5_must).before args s = true) (hR : rX5_must.frames + 1 ≤ R.frames ∧ 8 + (2 + 11) + rX5_must.locals ≤ R.locals) : CallW R s args own RX5 idx yX5_must cX5_must 2 none (wz yX5_must cX5_must 2 none) rX5_must 0 0 1 := ⟨kw 1 hts mw_1155 rfl rfl (tw_75 hts) hl (by decide +kernel) hR, tw_1154 hts, tw_64 hts⟩
abbrev rX5_number : Room := { frames := 3, cells := 0, slots := 0, locals := 64 }
def pX5_number_28 (Q : Int32 → Mx → Prop) (x3 : Int32) (y0 : Int32) (σ : Mx) : Prop := pX5_must σ y0 (fun u28 => (Q x3 u28))
def pX5_number_27 (Q : Int32 → Mx → Prop) (x3 : Int32) (σ : Mx) : Prop := pX5_number_28 Q x3 0 σ
def pX5_number (σ : Mx) (x1 : Int32) (x2 : Int32) (Q : Int32 → Mx → Prop) : Prop := ∀ v4 : Int32, v4 = (σ 11 0) → ((¬ (σ 10 0) = 2 → (pX5_number_27 Q v4 σ)) ∧ ((σ 10 0) = 2 → (pX5_within v4 x1 x2 (fun r17 => ((r17 = 0 → (pX5_number_27 Q v4 σ)) ∧ (¬ r17 = 0 → (pX5_number_28 Q v4 1 σ)))))))
set_option maxHeartbeats 4000000 in
set_option maxRecDepth 100000 in
theorem bX5_number_28 {p : Program} {l : Launch} {e : Env} {s : State} {m : MethodId} {args : Array Value} {below : List Frame} {meth : Method} {c : Code} {D : va_G} {κ : Nat → ClassId} {τ : Nat → Nat} {a : Nat → Nat}   {Q : Int32 → Mx → Prop} (Cc : Cx D κ RX5 cX5_number 4 (some .int) p s m args meth c) (hIt : Ij a 13)   : ∀ (x3 : Int32) (y0 : Int32) (σ : Mx) (H : Heap) (locs : List Loc) (hPt : va_P D classes (wMo κ τ a σ) H) (hS : va_S (cA a 13) s.heap H locs) (ls : Array Slot) (hl : lv_has ls 4 [(3, .int x3)]) (h : pX5_number_28 Q x3 y0 σ), W p l e rX5_number s m args below meth c H locs 0 0 (MQ below (QWi Q (fun u H => va_P D classes (wMo κ τ a u) H) (cA a 13)) args s 0 0 (cA a 13)) (F0 m 28 ls [.int y0, .ref (a 0)]) := by
  obtain ⟨hx, hb, hml, hown, hts, hr, hlk, hE⟩ := id Cc
  intro x3 y0 σ H locs hPt hS ls hl h
  unfold pX5_number_28 at h
  refine kWv (kV Cc (mX5_must l D κ τ a hIt h) (qX5_must hts (tw_1152 hts) ⟨(Nat.le_of_ble_eq_true rfl), (Nat.le_of_ble_eq_true rfl)⟩) (va_recv hE.1 hPt (ci := 5) (q0 := 0) rfl rfl) (rest := []) hPt rfl hl.1 rfl (Nat.le_of_ble_eq_true rfl) dX5_number_28 ⟨Nat.zero_le _, Nat.zero_le _⟩) hS (fun q h9 => h9) (fun  u28 H1 locs1 h hB hk hS1 => ?_)
  have hPt := hB
  have hS := hS1
  refine lv_iload_n hx hb dX5_number_31 rfl (lv_at hl 0 rfl) ?_
  exact W.iret (v := x3) hx hb hr (fun t ht _ => QWi.mk (u := u28) h hPt hS ht) hS.2.2 dX5_number_32 (hlocks := hlk)
set_option maxHeartbeats 4000000 in
set_option maxRecDepth 100000 in
theorem bX5_number_27 {p : Program} {l : Launch} {e : Env} {s : State} {m : MethodId} {args : Array Value} {below : List Frame} {meth : Method} {c : Code} {D : va_G} {κ : Nat → ClassId} {τ : Nat → Nat} {a : Nat → Nat}   {Q : Int32 → Mx → Prop} (Cc : Cx D κ RX5 cX5_number 4 (some .int) p s m args meth c) (hIt : Ij a 13)   : ∀ (x3 : Int32) (σ : Mx) (H : Heap) (locs : List Loc) (hPt : va_P D classes (wMo κ τ a σ) H) (hS : va_S (cA a 13) s.heap H locs) (ls : Array Slot) (hl : lv_has ls 4 [(3, .int x3)]) (h : pX5_number_27 Q x3 σ), W p l e rX5_number s m args below meth c H locs 0 0 (MQ below (QWi Q (fun u H => va_P D classes (wMo κ τ a u) H) (cA a 13)) args s 0 0 (cA a 13)) (F0 m 27 ls [.ref (a 0)]) := by
  obtain ⟨hx, hb, hml, hown, hts, hr, hlk, hE⟩ := id Cc
  intro x3 σ H locs hPt hS ls hl h
  unfold pX5_number_27 at h
  refine lv_iconst (v := 0) hx hb dX5_number_27 (by decide) ?_
  exact bX5_number_28 Cc hIt x3 0 σ _ _ hPt hS _ (lv_sub hl [0] rfl) h
set_option maxHeartbeats 4000000 in
set_option maxRecDepth 100000 in
theorem mX5_number (l : Launch) (D : va_G) (κ : Nat → ClassId) (τ : Nat → Nat) (a : Nat → Nat) {σ : Mx} {x1 : Int32} {x2 : Int32} {Q : Int32 → Mx → Prop} (hIt : Ij a 13) (h : pX5_number σ x1 x2 Q) : Met l yX5_number (wz yX5_number cX5_number 4 (some .int)) rX5_number (va_Pc [.ref (a 0), .int x1, .int x2] (PE D κ (fun H => va_P D classes (wMo κ τ a σ) H))) (QWi Q (fun u H => va_P D classes (wMo κ τ a u) H) (cA a 13)) 0 0 (cA a 13) := by
  refine Met_of l (own := RX5) (by decide) rfl (Nat.le_of_ble_eq_true rfl) (fun p e s m below meth c Cc hPP ls hl => ?_)
  obtain ⟨hx, hb, hml, hown, hts, hr, hlk, hE⟩ := id Cc
  have hl : lv_has ls 4 [(0, .ref (a 0)), (1, .int x1), (2, .int x2)] := hl
  have hPt := hPP
  have hS : va_S (cA a 13) s.heap s.heap [] := va_S.rf
  unfold pX5_number at h
  refine lv_aload_n hx hb dX5_number_0 rfl (lv_at hl 0 rfl) ?_
  refine gMo_11 Cc hPt (tw_772 hts) dX5_number_1 ?_
  refine lv_topi (fun v4 e4 => ?_)
  have h := h v4 e4
  refine lv_istore_n (lv' := [(3, .int v4), (0, .ref (a 0)), (1, .int x1), (2, .int x2)]) hx hb dX5_number_4 rfl hl (by decide) rfl (fun ls hl => ?_)
  refine lv_aload_n hx hb dX5_number_5 rfl (lv_at hl 1 rfl) ?_
  refine lv_aload_n hx hb dX5_number_6 rfl (lv_at hl 1 rfl) ?_
  refine gMo_10 Cc hPt (tw_771 hts) dX5_number_7 ?_
  refine lv_iconst (v := 2) hx hb dX5_number_10 (by decide) ?_
  refine lv_icmp_ne (tgt := 27) hx hb dX5_number_11 (by decide) (fun c11 => ?_) (fun c11 => ?_)
  · have h := h.1 c11
    exact bX5_number_27 Cc hIt v4 σ _ _ hPt hS _ (lv_sub hl [0] rfl) h
  · have h := h.2 c11
    refine lv_iload_n hx hb dX5_number_14 rfl (lv_at hl 0 rfl) ?_
    refine lv_iload_n hx hb dX5_number_15 rfl (lv_at hl 2 rfl) ?_
    refine lv_iload_n hx hb dX5_number_16 rfl (lv_at hl 3 rfl) ?_
    refine kR (kS Cc (mX5_within l D κ h) (qX5_within hts (tw_832 hts) ⟨(Nat.le_of_ble_eq_true rfl), (Nat.le_of_ble_eq_true rfl)⟩) (rest := [.ref (a 0)]) trivial rfl hl.1 rfl (Nat.le_of_ble_eq_true rfl) dX5_number_17 ⟨Nat.zero_le _, Nat.zero_le _⟩) (fun r17 h => ?_)
    refine lv_if_eq (tgt := 27) hx hb dX5_number_20 (by decide) (fun c20 => ?_) (fun c20 => ?_)
    · have h := h.1 c20
      exact bX5_number_27 Cc hIt v4 σ _ _ hPt hS _ (lv_sub hl [0] rfl) h
    · have h := h.2 c20
      refine lv_iconst (v := 1) hx hb dX5_number_23 (by decide) ?_
      refine lv_goto (tgt := 28) hx hb dX5_number_24 (by decide) ?_
      exact bX5_number_28 Cc hIt v4 1 σ _ _ hPt hS _ (lv_sub hl [0] rfl) h
theorem qX5_number {R : Room} {s : State} {args : Array Value} {own : String} {idx : Nat} (hts : ∀ w ∈ gG, w.before args s = true) (hl : (Cond.methodLink own idx yX5_number).before args s = true) (hR : rX5_number.frames + 1 ≤ R.frames ∧ 8 + (4 + 11) + rX5_number.locals ≤ R.locals) : CallW R s args own RX5 idx yX5_number cX5_number 4 (some .int) (wz yX5_number cX5_number 4 (some .int)) rX5_number 0 0 2 := ⟨kw 2 hts mw_1159 rfl rfl (tw_75 hts) hl (by decide +kernel) hR, tw_1158 hts, tw_65 hts⟩
abbrev rX5_addItem : Room := { frames := 0, cells := 0, slots := 0, locals := 0 }
def pX5_addItem (σ : Mx) (x1 : Int32) (x2 : Int32) (x3 : Int32) (x4 : Int32) (x5 : Int32) (Q : Mx → Prop) : Prop := ∀ v6 : Int32, v6 = (5 * (σ 15 0)) → (vp_in v6 600 ∧ (vp_in (v6 + 1) 600 ∧ (vp_in (v6 + 2) 600 ∧ (vp_in (v6 + 3) 600 ∧ (vp_in (v6 + 4) 600 ∧ (Q (st (st (st (st (st (st σ 14 v6.toNatClampNeg x1) 14 (v6 + 1).toNatClampNeg x2) 14 (v6 + 2).toNatClampNeg x3) 14 (v6 + 3).toNatClampNeg x4) 14 (v6 + 4).toNatClampNeg x5) 15 0 (((st (st (st (st (st σ 14 v6.toNatClampNeg x1) 14 (v6 + 1).toNatClampNeg x2) 14 (v6 + 2).toNatClampNeg x3) 14 (v6 + 3).toNatClampNeg x4) 14 (v6 + 4).toNatClampNeg x5) 15 0) + 1))))))))
set_option maxHeartbeats 4000000 in
set_option maxRecDepth 100000 in
theorem mX5_addItem (l : Launch) (D : va_G) (κ : Nat → ClassId) (τ : Nat → Nat) (a : Nat → Nat) {σ : Mx} {x1 : Int32} {x2 : Int32} {x3 : Int32} {x4 : Int32} {x5 : Int32} {Q : Mx → Prop} (hIt : Ij a 13) (h : pX5_addItem σ x1 x2 x3 x4 x5 Q) : Met l yX5_addItem (wz yX5_addItem cX5_addItem 7 none) rX5_addItem (va_Pc [.ref (a 0), .int x1, .int x2, .int x3, .int x4, .int x5] (PE D κ (fun H => va_P D classes (wMo κ τ a σ) H))) (QWv Q (fun u H => va_P D classes (wMo κ τ a u) H) (cA a 13)) 0 0 (cA a 13) := by
  refine Met_of l (own := RX5) (by decide) rfl (Nat.le_of_ble_eq_true rfl) (fun p e s m below meth c Cc hPP ls hl => ?_)
  obtain ⟨hx, hb, hml, hown, hts, hr, hlk, hE⟩ := id Cc
  have hl : lv_has ls 7 [(0, .ref (a 0)), (1, .int x1), (2, .int x2), (3, .int x3), (4, .int x4), (5, .int x5)] := hl
  have hPt := hPP
  have hS : va_S (cA a 13) s.heap s.heap [] := va_S.rf
  unfold pX5_addItem at h
  refine lv_iconst (v := 5) hx hb dX5_addItem_0 (by decide) ?_
  refine lv_aload_n hx hb dX5_addItem_1 rfl (lv_at hl 0 rfl) ?_
  refine gMo_15 Cc hPt (tw_776 hts) dX5_addItem_2 ?_
  refine lv_imul hx hb dX5_addItem_5 ?_
  refine lv_topi (fun v6 e6 => ?_)
  have h := h v6 e6
  refine lv_istore (lv' := [(6, .int v6), (0, .ref (a 0)), (1, .int x1), (2, .int x2), (3, .int x3), (4, .int x4), (5, .int x5)]) hx hb dX5_addItem_6 hl (by decide) rfl (fun ls hl => ?_)
  refine lv_aload_n hx hb dX5_addItem_8 rfl (lv_at hl 1 rfl) ?_
  refine gMo_14 Cc hPt (tw_775 hts) dX5_addItem_9 ?_
  refine lv_iload hx hb dX5_addItem_12 (lv_at hl 0 rfl) ?_
  refine lv_iload_n hx hb dX5_addItem_14 rfl (lv_at hl 2 rfl) ?_
  refine sMo_14 Cc hPt hIt hS ⟨8, by decide, rfl⟩ h.1 dX5_addItem_15 (fun H1 locs1 hB hS1 hk => ?_)
  have h := h.2
  have hPt := hB
  have hS := hS1
  refine lv_aload_n hx hb dX5_addItem_16 rfl (lv_at hl 1 rfl) ?_
  refine gMo_14 Cc hPt (tw_775 hts) dX5_addItem_17 ?_
  refine lv_iload hx hb dX5_addItem_20 (lv_at hl 0 rfl) ?_
  refine lv_iconst (v := 1) hx hb dX5_addItem_22 (by decide) ?_
  refine lv_iadd hx hb dX5_addItem_23 ?_
  refine lv_iload_n hx hb dX5_addItem_24 rfl (lv_at hl 3 rfl) ?_
  refine sMo_14 Cc hPt hIt hS ⟨8, by decide, rfl⟩ h.1 dX5_addItem_25 (fun H1 locs1 hB hS1 hk => ?_)
  have h := h.2
  have hPt := hB
  have hS := hS1
  refine lv_aload_n hx hb dX5_addItem_26 rfl (lv_at hl 1 rfl) ?_
  refine gMo_14 Cc hPt (tw_775 hts) dX5_addItem_27 ?_
  refine lv_iload hx hb dX5_addItem_30 (lv_at hl 0 rfl) ?_
  refine lv_iconst (v := 2) hx hb dX5_addItem_32 (by decide) ?_
  refine lv_iadd hx hb dX5_addItem_33 ?_
  refine lv_iload_n hx hb dX5_addItem_34 rfl (lv_at hl 4 rfl) ?_
  refine sMo_14 Cc hPt hIt hS ⟨8, by decide, rfl⟩ h.1 dX5_addItem_35 (fun H1 locs1 hB hS1 hk => ?_)
  have h := h.2
  have hPt := hB
  have hS := hS1
  refine lv_aload_n hx hb dX5_addItem_36 rfl (lv_at hl 1 rfl) ?_
  refine gMo_14 Cc hPt (tw_775 hts) dX5_addItem_37 ?_
  refine lv_iload hx hb dX5_addItem_40 (lv_at hl 0 rfl) ?_
  refine lv_iconst (v := 3) hx hb dX5_addItem_42 (by decide) ?_
  refine lv_iadd hx hb dX5_addItem_43 ?_
  refine lv_iload hx hb dX5_addItem_44 (lv_at hl 5 rfl) ?_
  refine sMo_14 Cc hPt hIt hS ⟨8, by decide, rfl⟩ h.1 dX5_addItem_46 (fun H1 locs1 hB hS1 hk => ?_)
  have h := h.2
  have hPt := hB
  have hS := hS1
  refine lv_aload_n hx hb dX5_addItem_47 rfl (lv_at hl 1 rfl) ?_
  refine gMo_14 Cc hPt (tw_775 hts) dX5_addItem_48 ?_
  refine lv_iload hx hb dX5_addItem_51 (lv_at hl 0 rfl) ?_
  refine lv_iconst (v := 4) hx hb dX5_addItem_53 (by decide) ?_
  refine lv_iadd hx hb dX5_addItem_54 ?_
  refine lv_iload hx hb dX5_addItem_55 (lv_at hl 6 rfl) ?_
  refine sMo_14 Cc hPt hIt hS ⟨8, by decide, rfl⟩ h.1 dX5_addItem_57 (fun H1 locs1 hB hS1 hk => ?_)
  have h := h.2
  have hPt := hB
  have hS := hS1
  refine lv_aload_n hx hb dX5_addItem_58 rfl (lv_at hl 1 rfl) ?_
  refine lv_dup hx hb dX5_addItem_59 rfl ?_
  refine gMo_15 Cc hPt (tw_776 hts) dX5_addItem_60 ?_
  refine lv_iconst (v := 1) hx hb dX5_addItem_63 (by decide) ?_
  refine lv_iadd hx hb dX5_addItem_64 ?_
  refine uMo_15 Cc hPt hIt hS ⟨0, by decide, rfl⟩ (tw_776 hts) dX5_addItem_65 (fun H1 locs1 hB hS1 hk => ?_)
  have hPt := hB
  have hS := hS1
  exact W.vret hx hb hr (fun t ht _ => QWv.mk (u := (st (st (st (st (st (st σ 14 v6.toNatClampNeg x1) 14 (v6 + 1).toNatClampNeg x2) 14 (v6 + 2).toNatClampNeg x3) 14 (v6 + 3).toNatClampNeg x4) 14 (v6 + 4).toNatClampNeg x5) 15 0 (((st (st (st (st (st σ 14 v6.toNatClampNeg x1) 14 (v6 + 1).toNatClampNeg x2) 14 (v6 + 2).toNatClampNeg x3) 14 (v6 + 3).toNatClampNeg x4) 14 (v6 + 4).toNatClampNeg x5) 15 0) + 1))) h hPt hS ht) hS.2.2 dX5_addItem_68 (hlocks := hlk)
theorem qX5_addItem {R : Room} {s : State} {args : Array Value} {own : String} {idx : Nat} (hts : ∀ w ∈ gG, w.before args s = true) (hl : (Cond.methodLink own idx yX5_addItem).before args s = true) (hR : rX5_addItem.frames + 1 ≤ R.frames ∧ 8 + (7 + 11) + rX5_addItem.locals ≤ R.locals) : CallW R s args own RX5 idx yX5_addItem cX5_addItem 7 none (wz yX5_addItem cX5_addItem 7 none) rX5_addItem 0 0 5 := ⟨kw 5 hts mw_1169 rfl rfl (tw_75 hts) hl (by decide +kernel) hR, tw_1168 hts, tw_67 hts⟩
abbrev rX5_isToldSo : Room := { frames := 2, cells := 0, slots := 0, locals := 45 }
def pX5_isToldSo_133 (Q : Mx → Prop) (σ : Mx) : Prop := Q σ
def pX5_isToldSo (σ : Mx) (x1 : Int32) (Q : Mx → Prop) : Prop := vp_in (x1 + 1) 600 ∧ (∀ v8 : Int32, v8 = (σ 14 (x1 + 1).toNatClampNeg) → (vp_in (x1 + 2) 600 ∧ (∀ v17 : Int32, v17 = (σ 14 (x1 + 2).toNatClampNeg) → (vp_in (x1 + 3) 600 ∧ (∀ v26 : Int32, v26 = (σ 14 (x1 + 3).toNatClampNeg) → (vp_in x1 600 ∧ (∀ v34 : Int32, v34 = (σ 14 x1.toNatClampNeg) → ((v34 = 10 → (vp_in (3 + v8) 67 ∧ (pX5_isToldSo_133 Q (st σ 0 (3 + v8).toNatClampNeg ((10 * v17) + v26))))) ∧ (v34 = 11 → (pX5_exchange σ v8 v17 (fun u81 => (pX5_isToldSo_133 Q u81)))) ∧ (¬ v34 = 10 → ¬ v34 = 11 → (vp_in x1 600 ∧ (pX5_isCut σ (σ 14 x1.toNatClampNeg) v8 v17 (fun r96 u96 => (pX5_pieceAt r96 3 (fun r108 => (vp_in r108 67 ∧ (pX5_pieceAt r96 4 (fun r121 => (vp_in (x1 + 4) 600 ∧ (vp_in r121 67 ∧ (pX5_isToldSo_133 Q (st (st u96 0 r108.toNatClampNeg v26) 0 r121.toNatClampNeg ((st u96 0 r108.toNatClampNeg v26) 14 (x1 + 4).toNatClampNeg))))))))))))))))))))))
set_option maxHeartbeats 4000000 in
set_option maxRecDepth 100000 in
theorem bX5_isToldSo_133 {p : Program} {l : Launch} {e : Env} {s : State} {m : MethodId} {args : Array Value} {below : List Frame} {meth : Method} {c : Code} {D : va_G} {κ : Nat → ClassId} {τ : Nat → Nat} {a : Nat → Nat}   {Q : Mx → Prop} (Cc : Cx D κ RX5 cX5_isToldSo 6 none p s m args meth c) (hIt : Ij a 13)   : ∀ (σ : Mx) (H : Heap) (locs : List Loc) (hPt : va_P D classes (wMo κ τ a σ) H) (hS : va_S (cA a 13) s.heap H locs) (ls : Array Slot) (hl : lv_has ls 6 []) (h : pX5_isToldSo_133 Q σ), W p l e rX5_isToldSo s m args below meth c H locs 0 0 (MQ below (QWv Q (fun u H => va_P D classes (wMo κ τ a u) H) (cA a 13)) args s 0 0 (cA a 13)) (F0 m 133 ls []) := by
  obtain ⟨hx, hb, hml, hown, hts, hr, hlk, hE⟩ := id Cc
  intro σ H locs hPt hS ls hl h
  unfold pX5_isToldSo_133 at h
  exact W.vret hx hb hr (fun t ht _ => QWv.mk (u := σ) h hPt hS ht) hS.2.2 dX5_isToldSo_133 (hlocks := hlk)
set_option maxHeartbeats 4000000 in
set_option maxRecDepth 100000 in
theorem mX5_isToldSo (l : Launch) (D : va_G) (κ : Nat → ClassId) (τ : Nat → Nat) (a : Nat → Nat) {σ : Mx} {x1 : Int32} {Q : Mx → Prop} (hIt : Ij a 13) (h : pX5_isToldSo σ x1 Q) : Met l yX5_isToldSo (wz yX5_isToldSo cX5_isToldSo 6 none) rX5_isToldSo (va_Pc [.ref (a 0), .int x1] (PE D κ (fun H => va_P D classes (wMo κ τ a σ) H))) (QWv Q (fun u H => va_P D classes (wMo κ τ a u) H) (cA a 13)) 0 0 (cA a 13) := by
  refine Met_of l (own := RX5) (by decide) rfl (Nat.le_of_ble_eq_true rfl) (fun p e s m below meth c Cc hPP ls hl => ?_)
  obtain ⟨hx, hb, hml, hown, hts, hr, hlk, hE⟩ := id Cc
  have hl : lv_has ls 6 [(0, .ref (a 0)), (1, .int x1)] := hl
  have hPt := hPP
  have hS : va_S (cA a 13) s.heap s.heap [] := va_S.rf
  unfold pX5_isToldSo at h
  refine lv_aload_n hx hb dX5_isToldSo_0 rfl (lv_at hl 0 rfl) ?_
  refine gMo_14 Cc hPt (tw_775 hts) dX5_isToldSo_1 ?_
  refine lv_iload_n hx hb dX5_isToldSo_4 rfl (lv_at hl 1 rfl) ?_
  refine lv_iconst (v := 1) hx hb dX5_isToldSo_5 (by decide) ?_
  refine lv_iadd hx hb dX5_isToldSo_6 ?_
  refine lMo_14 Cc hPt h.1 dX5_isToldSo_7 ?_
  have h := h.2
  refine lv_topi (fun v8 e8 => ?_)
  have h := h v8 e8
  refine lv_istore_n (lv' := [(2, .int v8), (0, .ref (a 0)), (1, .int x1)]) hx hb dX5_isToldSo_8 rfl hl (by decide) rfl (fun ls hl => ?_)
  refine lv_aload_n hx hb dX5_isToldSo_9 rfl (lv_at hl 1 rfl) ?_
  refine gMo_14 Cc hPt (tw_775 hts) dX5_isToldSo_10 ?_
  refine lv_iload_n hx hb dX5_isToldSo_13 rfl (lv_at hl 2 rfl) ?_
  refine lv_iconst (v := 2) hx hb dX5_isToldSo_14 (by decide) ?_
  refine lv_iadd hx hb dX5_isToldSo_15 ?_
  refine lMo_14 Cc hPt h.1 dX5_isToldSo_16 ?_
  have h := h.2
  refine lv_topi (fun v17 e17 => ?_)
  have h := h v17 e17
  refine lv_istore_n (lv' := [(3, .int v17), (2, .int v8), (0, .ref (a 0)), (1, .int x1)]) hx hb dX5_isToldSo_17 rfl hl (by decide) rfl (fun ls hl => ?_)
  refine lv_aload_n hx hb dX5_isToldSo_18 rfl (lv_at hl 2 rfl) ?_
  refine gMo_14 Cc hPt (tw_775 hts) dX5_isToldSo_19 ?_
  refine lv_iload_n hx hb dX5_isToldSo_22 rfl (lv_at hl 3 rfl) ?_
  refine lv_iconst (v := 3) hx hb dX5_isToldSo_23 (by decide) ?_
  refine lv_iadd hx hb dX5_isToldSo_24 ?_
  refine lMo_14 Cc hPt h.1 dX5_isToldSo_25 ?_
  have h := h.2
  refine lv_topi (fun v26 e26 => ?_)
  have h := h v26 e26
  refine lv_istore (lv' := [(4, .int v26), (3, .int v17), (2, .int v8), (0, .ref (a 0)), (1, .int x1)]) hx hb dX5_isToldSo_26 hl (by decide) rfl (fun ls hl => ?_)
  refine lv_aload_n hx hb dX5_isToldSo_28 rfl (lv_at hl 3 rfl) ?_
  refine gMo_14 Cc hPt (tw_775 hts) dX5_isToldSo_29 ?_
  refine lv_iload_n hx hb dX5_isToldSo_32 rfl (lv_at hl 4 rfl) ?_
  refine lMo_14 Cc hPt h.1 dX5_isToldSo_33 ?_
  have h := h.2
  refine lv_topi (fun v34 e34 => ?_)
  have h := h v34 e34
  by_cases c34_10 : v34 = 10
  · have h := h.1 c34_10
    refine lv_lookup (off := 26) (tgt := 60) hx hb dX5_isToldSo_34 (by decide) (by rw [c34_10] <;> rfl) (by decide) ?_
    refine lv_aload_n hx hb dX5_isToldSo_60 rfl (lv_at hl 3 rfl) ?_
    refine gMo_0 Cc hPt (tw_761 hts) dX5_isToldSo_61 ?_
    refine lv_iconst (v := 3) hx hb dX5_isToldSo_64 (by decide) ?_
    refine lv_iload_n hx hb dX5_isToldSo_65 rfl (lv_at hl 2 rfl) ?_
    refine lv_iadd hx hb dX5_isToldSo_66 ?_
    refine lv_bipush (v := 10) hx hb dX5_isToldSo_67 (by decide) ?_
    refine lv_iload_n hx hb dX5_isToldSo_69 rfl (lv_at hl 1 rfl) ?_
    refine lv_imul hx hb dX5_isToldSo_70 ?_
    refine lv_iload hx hb dX5_isToldSo_71 (lv_at hl 0 rfl) ?_
    refine lv_iadd hx hb dX5_isToldSo_73 ?_
    refine sMo_0 Cc hPt hIt hS ⟨1, by decide, rfl⟩ h.1 dX5_isToldSo_74 (fun H1 locs1 hB hS1 hk => ?_)
    have h := h.2
    have hPt := hB
    have hS := hS1
    refine lv_goto (tgt := 133) hx hb dX5_isToldSo_75 (by decide) ?_
    exact bX5_isToldSo_133 Cc hIt (st σ 0 (3 + v8).toNatClampNeg ((10 * v17) + v26)) _ _ hPt hS _ (lv_sub hl [] rfl) h
  · have h := h.2
    by_cases c34_11 : v34 = 11
    · have h := h.1 c34_11
      refine lv_lookup (off := 44) (tgt := 78) hx hb dX5_isToldSo_34 (by decide) (by rw [c34_11] <;> rfl) (by decide) ?_
      refine lv_aload_n hx hb dX5_isToldSo_78 rfl (lv_at hl 3 rfl) ?_
      refine lv_iload_n hx hb dX5_isToldSo_79 rfl (lv_at hl 2 rfl) ?_
      refine lv_iload_n hx hb dX5_isToldSo_80 rfl (lv_at hl 1 rfl) ?_
      refine kWv (kV Cc (mX5_exchange l D κ τ a hIt h) (qX5_exchange hts (tw_933 hts) ⟨(Nat.le_of_ble_eq_true rfl), (Nat.le_of_ble_eq_true rfl)⟩) (va_recv hE.1 hPt (ci := 5) (q0 := 0) rfl rfl) (rest := []) hPt rfl hl.1 rfl (Nat.le_of_ble_eq_true rfl) dX5_isToldSo_81 ⟨Nat.zero_le _, Nat.zero_le _⟩) hS (fun q h9 => h9) (fun  u81 H1 locs1 h hB hk hS1 => ?_)
      have hPt := hB
      have hS := hS1
      refine lv_goto (tgt := 133) hx hb dX5_isToldSo_84 (by decide) ?_
      exact bX5_isToldSo_133 Cc hIt u81 _ _ hPt hS _ (lv_sub hl [] rfl) h
    · have h := h.2
      have h := h c34_10 c34_11
      refine lv_lookup (off := 53) (tgt := 87) hx hb dX5_isToldSo_34 (by decide) (by have h10 := ne_toInt c34_10 (z := 10) (by decide); have h11 := ne_toInt c34_11 (z := 11) (by decide); simp [Op.lookupswitch.offset, Ne.symm h10, Ne.symm h11]) (by decide) ?_
      refine lv_aload_n hx hb dX5_isToldSo_87 rfl (lv_at hl 3 rfl) ?_
      refine lv_aload_n hx hb dX5_isToldSo_88 rfl (lv_at hl 3 rfl) ?_
      refine gMo_14 Cc hPt (tw_775 hts) dX5_isToldSo_89 ?_
      refine lv_iload_n hx hb dX5_isToldSo_92 rfl (lv_at hl 4 rfl) ?_
      refine lMo_14 Cc hPt h.1 dX5_isToldSo_93 ?_
      have h := h.2
      refine lv_iload_n hx hb dX5_isToldSo_94 rfl (lv_at hl 2 rfl) ?_
      refine lv_iload_n hx hb dX5_isToldSo_95 rfl (lv_at hl 1 rfl) ?_
      refine kWi (kV Cc (mX5_isCut l D κ τ a hIt h) (qX5_isCut hts (tw_862 hts) ⟨(Nat.le_of_ble_eq_true rfl), (Nat.le_of_ble_eq_true rfl)⟩) (va_recv hE.1 hPt (ci := 5) (q0 := 0) rfl rfl) (rest := []) hPt rfl hl.1 rfl (Nat.le_of_ble_eq_true rfl) dX5_isToldSo_96 ⟨Nat.zero_le _, Nat.zero_le _⟩) hS (fun q h9 => h9) (fun r96 u96 H1 locs1 h hB hk hS1 => ?_)
      have hPt := hB
      have hS := hS1
      refine lv_istore (lv' := [(5, .int r96), (4, .int v26), (3, .int v17), (2, .int v8), (0, .ref (a 0)), (1, .int x1)]) hx hb dX5_isToldSo_99 hl (by decide) rfl (fun ls hl => ?_)
      refine lv_aload_n hx hb dX5_isToldSo_101 rfl (lv_at hl 4 rfl) ?_
      refine gMo_0 Cc hPt (tw_761 hts) dX5_isToldSo_102 ?_
      refine lv_iload hx hb dX5_isToldSo_105 (lv_at hl 0 rfl) ?_
      refine lv_iconst (v := 3) hx hb dX5_isToldSo_107 (by decide) ?_
      refine kR (kS Cc (mX5_pieceAt l D κ h) (qX5_pieceAt hts (tw_866 hts) ⟨(Nat.le_of_ble_eq_true rfl), (Nat.le_of_ble_eq_true rfl)⟩) (rest := [.ref (a 1)]) trivial rfl hl.1 rfl (Nat.le_of_ble_eq_true rfl) dX5_isToldSo_108 ⟨Nat.zero_le _, Nat.zero_le _⟩) (fun r108 h => ?_)
      refine lv_iload hx hb dX5_isToldSo_111 (lv_at hl 1 rfl) ?_
      refine sMo_0 Cc hPt hIt hS ⟨1, by decide, rfl⟩ h.1 dX5_isToldSo_113 (fun H1 locs1 hB hS1 hk => ?_)
      have h := h.2
      have hPt := hB
      have hS := hS1
      refine lv_aload_n hx hb dX5_isToldSo_114 rfl (lv_at hl 4 rfl) ?_
      refine gMo_0 Cc hPt (tw_761 hts) dX5_isToldSo_115 ?_
      refine lv_iload hx hb dX5_isToldSo_118 (lv_at hl 0 rfl) ?_
      refine lv_iconst (v := 4) hx hb dX5_isToldSo_120 (by decide) ?_
      refine kR (kS Cc (mX5_pieceAt l D κ h) (qX5_pieceAt hts (tw_866 hts) ⟨(Nat.le_of_ble_eq_true rfl), (Nat.le_of_ble_eq_true rfl)⟩) (rest := [.ref (a 1)]) trivial rfl hl.1 rfl (Nat.le_of_ble_eq_true rfl) dX5_isToldSo_121 ⟨Nat.zero_le _, Nat.zero_le _⟩) (fun r121 h => ?_)
      refine lv_aload_n hx hb dX5_isToldSo_124 rfl (lv_at hl 4 rfl) ?_
      refine gMo_14 Cc hPt (tw_775 hts) dX5_isToldSo_125 ?_
      refine lv_iload_n hx hb dX5_isToldSo_128 rfl (lv_at hl 5 rfl) ?_
      refine lv_iconst (v := 4) hx hb dX5_isToldSo_129 (by decide) ?_
      refine lv_iadd hx hb dX5_isToldSo_130 ?_
      refine lMo_14 Cc hPt h.1 dX5_isToldSo_131 ?_
      have h := h.2
      refine sMo_0 Cc hPt hIt hS ⟨1, by decide, rfl⟩ h.1 dX5_isToldSo_132 (fun H1 locs1 hB hS1 hk => ?_)
      have h := h.2
      have hPt := hB
      have hS := hS1
      exact bX5_isToldSo_133 Cc hIt (st (st u96 0 r108.toNatClampNeg v26) 0 r121.toNatClampNeg ((st u96 0 r108.toNatClampNeg v26) 14 (x1 + 4).toNatClampNeg)) _ _ hPt hS _ (lv_sub hl [] rfl) h
theorem qX5_isToldSo {R : Room} {s : State} {args : Array Value} {own : String} {idx : Nat} (hts : ∀ w ∈ gG, w.before args s = true) (hl : (Cond.methodLink own idx yX5_isToldSo).before args s = true) (hR : rX5_isToldSo.frames + 1 ≤ R.frames ∧ 8 + (6 + 11) + rX5_isToldSo.locals ≤ R.locals) : CallW R s args own RX5 idx yX5_isToldSo cX5_isToldSo 6 none (wz yX5_isToldSo cX5_isToldSo 6 none) rX5_isToldSo 0 0 1 := ⟨kw 1 hts mw_1175 rfl rfl (tw_75 hts) hl (by decide +kernel) hR, tw_1174 hts, tw_68 hts⟩
abbrev rX5_isSpot : Room := { frames := 1, cells := 0, slots := 0, locals := 22 }
def pX5_isSpot  (x1 : Int32) (Q : Int32 → Prop) : Prop := pX5_within x1 0 9 (fun r4 => ((r4 = 0 ∨ r4 = 1) ∧ (Q r4)))
set_option maxHeartbeats 4000000 in
set_option maxRecDepth 100000 in
theorem mX5_isSpot (l : Launch) (D : va_G) (κ : Nat → ClassId)   {x1 : Int32} {Q : Int32 → Prop}  (h : pX5_isSpot  x1 Q) : Met l yX5_isSpot (wz yX5_isSpot cX5_isSpot 1 (some .boolean)) rX5_isSpot (va_Pc [.int x1] (PE D κ (fun _ => True))) (RQ Q) 0 0 (fun _ => False) := by
  refine Met_of l (own := RX5) (by decide) rfl (Nat.le_of_ble_eq_true rfl) (fun p e s m below meth c Cc hPP ls hl => ?_)
  obtain ⟨hx, hb, hml, hown, hts, hr, hlk, hE⟩ := id Cc
  have hl : lv_has ls 1 [(0, .int x1)] := hl
  unfold pX5_isSpot at h
  refine lv_iload_n hx hb dX5_isSpot_0 rfl (lv_at hl 0 rfl) ?_
  refine lv_iconst (v := 0) hx hb dX5_isSpot_1 (by decide) ?_
  refine lv_bipush (v := 9) hx hb dX5_isSpot_2 (by decide) ?_
  refine kR (kS Cc (mX5_within l D κ h) (qX5_within hts (tw_832 hts) ⟨(Nat.le_of_ble_eq_true rfl), (Nat.le_of_ble_eq_true rfl)⟩) (rest := []) trivial rfl hl.1 rfl (Nat.le_of_ble_eq_true rfl) dX5_isSpot_4 ⟨Nat.zero_le _, Nat.zero_le _⟩) (fun r4 h => ?_)
  exact W.zret (v := r4) (ty := .boolean) hx hb hr (bool_nar h.1) (fun t ht _ => RQ.mk h.2 ht) (fun _ h9 => by cases h9) dX5_isSpot_7 (hlocks := hlk)
theorem qX5_isSpot {R : Room} {s : State} {args : Array Value} {own : String} {idx : Nat} (hts : ∀ w ∈ gG, w.before args s = true) (hl : (Cond.methodLink own idx yX5_isSpot).before args s = true) (hR : rX5_isSpot.frames + 1 ≤ R.frames ∧ 8 + (1 + 11) + rX5_isSpot.locals ≤ R.locals) : CallB R s args own idx yX5_isSpot cX5_isSpot 1 (some .boolean) (wz yX5_isSpot cX5_isSpot 1 (some .boolean)) rX5_isSpot 0 0 1 ∧ (Cond.static yX5_isSpot).before args s = true := ⟨kw 1 hts mw_1182 rfl rfl (tw_75 hts) hl (by decide +kernel) hR, tw_1181 hts⟩
abbrev rX5_hold : Room := { frames := 2, cells := 0, slots := 0, locals := 43 }
def pX5_hold_20 (Q : Int32 → Mx → Prop) (σ : Mx) : Prop := pX5_finding σ (-1000001) (fun r23 u23 => (Q r23 u23))
def pX5_hold_27 (Q : Int32 → Mx → Prop) (x1 : Int32) (x2 : Int32) (σ : Mx) : Prop := vp_in (9 + x1) 67 ∧ (Q 1 (st σ 0 (9 + x1).toNatClampNeg x2))
def pX5_hold (σ : Mx) (x1 : Int32) (x2 : Int32) (Q : Int32 → Mx → Prop) : Prop := pX5_isSpot x1 (fun r1 => ((r1 = 0 → (pX5_hold_20 Q σ)) ∧ (¬ r1 = 0 → ((x2 = (-1) → (pX5_hold_27 Q x1 x2 σ)) ∧ (¬ x2 = (-1) → (pX5_isPiece σ x2 (fun r14 => ((¬ r14 = 0 → (pX5_hold_27 Q x1 x2 σ)) ∧ (r14 = 0 → (pX5_hold_20 Q σ))))))))))
set_option maxHeartbeats 4000000 in
set_option maxRecDepth 100000 in
theorem bX5_hold_20 {p : Program} {l : Launch} {e : Env} {s : State} {m : MethodId} {args : Array Value} {below : List Frame} {meth : Method} {c : Code} {D : va_G} {κ : Nat → ClassId} {τ : Nat → Nat} {a : Nat → Nat}   {Q : Int32 → Mx → Prop} (Cc : Cx D κ RX5 cX5_hold 3 (some .int) p s m args meth c) (hIt : Ij a 13)   : ∀ (σ : Mx) (H : Heap) (locs : List Loc) (hPt : va_P D classes (wMo κ τ a σ) H) (hS : va_S (cA a 13) s.heap H locs) (ls : Array Slot) (hl : lv_has ls 3 [(0, .ref (a 0))]) (h : pX5_hold_20 Q σ), W p l e rX5_hold s m args below meth c H locs 0 0 (MQ below (QWi Q (fun u H => va_P D classes (wMo κ τ a u) H) (cA a 13)) args s 0 0 (cA a 13)) (F0 m 20 ls []) := by
  obtain ⟨hx, hb, hml, hown, hts, hr, hlk, hE⟩ := id Cc
  intro σ H locs hPt hS ls hl h
  unfold pX5_hold_20 at h
  refine lv_aload_n hx hb dX5_hold_20 rfl (lv_at hl 0 rfl) ?_
  refine lv_ldc (own := RX5) (v := (-1000001)) hx hb hown (tw_842 hts) dX5_hold_21 ?_
  refine kWi (kV Cc (mX5_finding l D κ τ a hIt h) (qX5_finding hts (tw_843 hts) ⟨(Nat.le_of_ble_eq_true rfl), (Nat.le_of_ble_eq_true rfl)⟩) (va_recv hE.1 hPt (ci := 5) (q0 := 0) rfl rfl) (rest := []) hPt rfl hl.1 rfl (Nat.le_of_ble_eq_true rfl) dX5_hold_23 ⟨Nat.zero_le _, Nat.zero_le _⟩) hS (fun q h9 => h9) (fun r23 u23 H1 locs1 h hB hk hS1 => ?_)
  have hPt := hB
  have hS := hS1
  exact W.iret (v := r23) hx hb hr (fun t ht _ => QWi.mk (u := u23) h hPt hS ht) hS.2.2 dX5_hold_26 (hlocks := hlk)
set_option maxHeartbeats 4000000 in
set_option maxRecDepth 100000 in
theorem bX5_hold_27 {p : Program} {l : Launch} {e : Env} {s : State} {m : MethodId} {args : Array Value} {below : List Frame} {meth : Method} {c : Code} {D : va_G} {κ : Nat → ClassId} {τ : Nat → Nat} {a : Nat → Nat}   {Q : Int32 → Mx → Prop} (Cc : Cx D κ RX5 cX5_hold 3 (some .int) p s m args meth c) (hIt : Ij a 13)   : ∀ (x1 : Int32) (x2 : Int32) (σ : Mx) (H : Heap) (locs : List Loc) (hPt : va_P D classes (wMo κ τ a σ) H) (hS : va_S (cA a 13) s.heap H locs) (ls : Array Slot) (hl : lv_has ls 3 [(0, .ref (a 0)), (1, .int x1), (2, .int x2)]) (h : pX5_hold_27 Q x1 x2 σ), W p l e rX5_hold s m args below meth c H locs 0 0 (MQ below (QWi Q (fun u H => va_P D classes (wMo κ τ a u) H) (cA a 13)) args s 0 0 (cA a 13)) (F0 m 27 ls []) := by
  obtain ⟨hx, hb, hml, hown, hts, hr, hlk, hE⟩ := id Cc
  intro x1 x2 σ H locs hPt hS ls hl h
  unfold pX5_hold_27 at h
  refine lv_aload_n hx hb dX5_hold_27 rfl (lv_at hl 0 rfl) ?_
  refine gMo_0 Cc hPt (tw_761 hts) dX5_hold_28 ?_
  refine lv_bipush (v := 9) hx hb dX5_hold_31 (by decide) ?_
  refine lv_iload_n hx hb dX5_hold_33 rfl (lv_at hl 1 rfl) ?_
  refine lv_iadd hx hb dX5_hold_34 ?_
  refine lv_iload_n hx hb dX5_hold_35 rfl (lv_at hl 2 rfl) ?_
  refine sMo_0 Cc hPt hIt hS ⟨1, by decide, rfl⟩ h.1 dX5_hold_36 (fun H1 locs1 hB hS1 hk => ?_)
  have h := h.2
  have hPt := hB
  have hS := hS1
  refine lv_iconst (v := 1) hx hb dX5_hold_37 (by decide) ?_
  exact W.iret (v := 1) hx hb hr (fun t ht _ => QWi.mk (u := (st σ 0 (9 + x1).toNatClampNeg x2)) h hPt hS ht) hS.2.2 dX5_hold_38 (hlocks := hlk)
set_option maxHeartbeats 4000000 in
set_option maxRecDepth 100000 in
theorem mX5_hold (l : Launch) (D : va_G) (κ : Nat → ClassId) (τ : Nat → Nat) (a : Nat → Nat) {σ : Mx} {x1 : Int32} {x2 : Int32} {Q : Int32 → Mx → Prop} (hIt : Ij a 13) (h : pX5_hold σ x1 x2 Q) : Met l yX5_hold (wz yX5_hold cX5_hold 3 (some .int)) rX5_hold (va_Pc [.ref (a 0), .int x1, .int x2] (PE D κ (fun H => va_P D classes (wMo κ τ a σ) H))) (QWi Q (fun u H => va_P D classes (wMo κ τ a u) H) (cA a 13)) 0 0 (cA a 13) := by
  refine Met_of l (own := RX5) (by decide) rfl (Nat.le_of_ble_eq_true rfl) (fun p e s m below meth c Cc hPP ls hl => ?_)
  obtain ⟨hx, hb, hml, hown, hts, hr, hlk, hE⟩ := id Cc
  have hl : lv_has ls 3 [(0, .ref (a 0)), (1, .int x1), (2, .int x2)] := hl
  have hPt := hPP
  have hS : va_S (cA a 13) s.heap s.heap [] := va_S.rf
  unfold pX5_hold at h
  refine lv_iload_n hx hb dX5_hold_0 rfl (lv_at hl 1 rfl) ?_
  refine kR (kS Cc (mX5_isSpot l D κ h) (qX5_isSpot hts (tw_1180 hts) ⟨(Nat.le_of_ble_eq_true rfl), (Nat.le_of_ble_eq_true rfl)⟩) (rest := []) trivial rfl hl.1 rfl (Nat.le_of_ble_eq_true rfl) dX5_hold_1 ⟨Nat.zero_le _, Nat.zero_le _⟩) (fun r1 h => ?_)
  refine lv_if_eq (tgt := 20) hx hb dX5_hold_4 (by decide) (fun c4 => ?_) (fun c4 => ?_)
  · have h := h.1 c4
    exact bX5_hold_20 Cc hIt σ _ _ hPt hS _ (lv_sub hl [0] rfl) h
  · have h := h.2 c4
    refine lv_iload_n hx hb dX5_hold_7 rfl (lv_at hl 2 rfl) ?_
    refine lv_iconst (v := (-1)) hx hb dX5_hold_8 (by decide) ?_
    refine lv_icmp_eq (tgt := 27) hx hb dX5_hold_9 (by decide) (fun c9 => ?_) (fun c9 => ?_)
    · have h := h.1 c9
      exact bX5_hold_27 Cc hIt x1 x2 σ _ _ hPt hS _ (lv_sub hl [0, 1, 2] rfl) h
    · have h := h.2 c9
      refine lv_aload_n hx hb dX5_hold_12 rfl (lv_at hl 0 rfl) ?_
      refine lv_iload_n hx hb dX5_hold_13 rfl (lv_at hl 2 rfl) ?_
      refine kR (kV Cc (mX5_isPiece l D κ τ a h) (qX5_isPiece hts (tw_873 hts) ⟨(Nat.le_of_ble_eq_true rfl), (Nat.le_of_ble_eq_true rfl)⟩) (va_recv hE.1 hPt (ci := 5) (q0 := 0) rfl rfl) (rest := []) hPt rfl hl.1 rfl (Nat.le_of_ble_eq_true rfl) dX5_hold_14 ⟨Nat.zero_le _, Nat.zero_le _⟩) (fun r14 h => ?_)
      refine lv_if_ne (tgt := 27) hx hb dX5_hold_17 (by decide) (fun c17 => ?_) (fun c17 => ?_)
      · have h := h.1 c17
        exact bX5_hold_27 Cc hIt x1 x2 σ _ _ hPt hS _ (lv_sub hl [0, 1, 2] rfl) h
      · have h := h.2 c17
        exact bX5_hold_20 Cc hIt σ _ _ hPt hS _ (lv_sub hl [0] rfl) h
theorem qX5_hold {R : Room} {s : State} {args : Array Value} {own : String} {idx : Nat} (hts : ∀ w ∈ gG, w.before args s = true) (hl : (Cond.methodLink own idx yX5_hold).before args s = true) (hR : rX5_hold.frames + 1 ≤ R.frames ∧ 8 + (3 + 11) + rX5_hold.locals ≤ R.locals) : CallW R s args own RX5 idx yX5_hold cX5_hold 3 (some .int) (wz yX5_hold cX5_hold 3 (some .int)) rX5_hold 0 0 2 := ⟨kw 2 hts mw_1179 rfl rfl (tw_75 hts) hl (by decide +kernel) hR, tw_1177 hts, tw_1178 hts⟩
abbrev rX5_above : Room := { frames := 0, cells := 0, slots := 0, locals := 0 }
def pX5_above_37 (Q : Int32 → Prop) (y0 : Int32) : Prop := Q y0
def pX5_above  (x1 : Int32) (Q : Int32 → Prop) : Prop := (¬ x1 = 0 → ((¬ x1 = 3 → ((¬ x1 = 4 → ((¬ x1 = 6 → (pX5_above_37 Q 0)) ∧ (x1 = 6 → (pX5_above_37 Q 1)))) ∧ (x1 = 4 → (pX5_above_37 Q 3)))) ∧ (x1 = 3 → (pX5_above_37 Q 2)))) ∧ (x1 = 0 → (pX5_above_37 Q (-1)))
set_option maxHeartbeats 4000000 in
set_option maxRecDepth 100000 in
theorem bX5_above_37 {p : Program} {l : Launch} {e : Env} {s : State} {m : MethodId} {args : Array Value} {below : List Frame} {meth : Method} {c : Code} {D : va_G} {κ : Nat → ClassId}    {Q : Int32 → Prop} (Cc : Cx D κ RX5 cX5_above 1 (some .int) p s m args meth c)    : ∀ (y0 : Int32) (ls : Array Slot) (hl : lv_has ls 1 []) (h : pX5_above_37 Q y0), W p l e rX5_above s m args below meth c s.heap [] 0 0 (MQ below (RQ Q) args s 0 0 (fun _ => False)) (F0 m 37 ls [.int y0]) := by
  obtain ⟨hx, hb, hml, hown, hts, hr, hlk, hE⟩ := id Cc
  intro y0 ls hl h
  unfold pX5_above_37 at h
  exact W.iret (v := y0) hx hb hr (fun t ht _ => RQ.mk h ht) (fun _ h9 => by cases h9) dX5_above_37 (hlocks := hlk)
set_option maxHeartbeats 4000000 in
set_option maxRecDepth 100000 in
theorem mX5_above (l : Launch) (D : va_G) (κ : Nat → ClassId)   {x1 : Int32} {Q : Int32 → Prop}  (h : pX5_above  x1 Q) : Met l yX5_above (wz yX5_above cX5_above 1 (some .int)) rX5_above (va_Pc [.int x1] (PE D κ (fun _ => True))) (RQ Q) 0 0 (fun _ => False) := by
  refine Met_of l (own := RX5) (by decide) rfl (Nat.le_of_ble_eq_true rfl) (fun p e s m below meth c Cc hPP ls hl => ?_)
  obtain ⟨hx, hb, hml, hown, hts, hr, hlk, hE⟩ := id Cc
  have hl : lv_has ls 1 [(0, .int x1)] := hl
  unfold pX5_above at h
  refine lv_iload_n hx hb dX5_above_0 rfl (lv_at hl 0 rfl) ?_
  refine lv_if_ne (tgt := 8) hx hb dX5_above_1 (by decide) (fun c1 => ?_) (fun c1 => ?_)
  · have h := h.1 c1
    refine lv_iload_n hx hb dX5_above_8 rfl (lv_at hl 0 rfl) ?_
    refine lv_iconst (v := 3) hx hb dX5_above_9 (by decide) ?_
    refine lv_icmp_ne (tgt := 17) hx hb dX5_above_10 (by decide) (fun c10 => ?_) (fun c10 => ?_)
    · have h := h.1 c10
      refine lv_iload_n hx hb dX5_above_17 rfl (lv_at hl 0 rfl) ?_
      refine lv_iconst (v := 4) hx hb dX5_above_18 (by decide) ?_
      refine lv_icmp_ne (tgt := 26) hx hb dX5_above_19 (by decide) (fun c19 => ?_) (fun c19 => ?_)
      · have h := h.1 c19
        refine lv_iload_n hx hb dX5_above_26 rfl (lv_at hl 0 rfl) ?_
        refine lv_bipush (v := 6) hx hb dX5_above_27 (by decide) ?_
        refine lv_icmp_ne (tgt := 36) hx hb dX5_above_29 (by decide) (fun c29 => ?_) (fun c29 => ?_)
        · have h := h.1 c29
          refine lv_iconst (v := 0) hx hb dX5_above_36 (by decide) ?_
          exact bX5_above_37 Cc 0  _ (lv_sub hl [] rfl) h
        · have h := h.2 c29
          refine lv_iconst (v := 1) hx hb dX5_above_32 (by decide) ?_
          refine lv_goto (tgt := 37) hx hb dX5_above_33 (by decide) ?_
          exact bX5_above_37 Cc 1  _ (lv_sub hl [] rfl) h
      · have h := h.2 c19
        refine lv_iconst (v := 3) hx hb dX5_above_22 (by decide) ?_
        refine lv_goto (tgt := 37) hx hb dX5_above_23 (by decide) ?_
        exact bX5_above_37 Cc 3  _ (lv_sub hl [] rfl) h
    · have h := h.2 c10
      refine lv_iconst (v := 2) hx hb dX5_above_13 (by decide) ?_
      refine lv_goto (tgt := 37) hx hb dX5_above_14 (by decide) ?_
      exact bX5_above_37 Cc 2  _ (lv_sub hl [] rfl) h
  · have h := h.2 c1
    refine lv_iconst (v := (-1)) hx hb dX5_above_4 (by decide) ?_
    refine lv_goto (tgt := 37) hx hb dX5_above_5 (by decide) ?_
    exact bX5_above_37 Cc (-1)  _ (lv_sub hl [] rfl) h
theorem qX5_above {R : Room} {s : State} {args : Array Value} {own : String} {idx : Nat} (hts : ∀ w ∈ gG, w.before args s = true) (hl : (Cond.methodLink own idx yX5_above).before args s = true) (hR : rX5_above.frames + 1 ≤ R.frames ∧ 8 + (1 + 11) + rX5_above.locals ≤ R.locals) : CallB R s args own idx yX5_above cX5_above 1 (some .int) (wz yX5_above cX5_above 1 (some .int)) rX5_above 0 0 1 ∧ (Cond.static yX5_above).before args s = true := ⟨kw 1 hts mw_1192 rfl rfl (tw_75 hts) hl (by decide +kernel) hR, tw_1191 hts⟩
abbrev rX5_isUnder : Room := { frames := 1, cells := 0, slots := 0, locals := 20 }
def pX5_isUnder_28 (Q : Int32 → Prop) (y0 : Int32) : Prop := (y0 = 0 ∨ y0 = 1) ∧ (Q y0)
def pX5_isUnder_19 (Q : Int32 → Prop) (x2 : Int32) : Prop := (x2 < 0 → (pX5_isUnder_28 Q 0)) ∧ (¬ x2 < 0 → (pX5_isUnder_28 Q 1))
def pX5_isUnder_2s  (ih2 : Int32 → Int32 → Prop) (Q : Int32 → Prop) (x1 : Int32) (x2 : Int32) : Prop := (x2 < 0 → (pX5_isUnder_19 Q x2)) ∧ (¬ x2 < 0 → ((x2 = x1 → (pX5_isUnder_19 Q x2)) ∧ (¬ x2 = x1 → (pX5_above x2 (fun r12 => (ih2 x1 r12))))))
noncomputable def pX5_isUnder_2 (Q : Int32 → Prop) (n : Nat) : Int32 → Int32 → Prop := Nat.rec (motive := fun _ => Int32 → Int32 → Prop) (fun _ _ => False) (fun _ ih => pX5_isUnder_2s ih Q) n
def pX5_isUnder  (x1 : Int32) (x2 : Int32) (Q : Int32 → Prop) : Prop := ∃ n, pX5_isUnder_2 Q n x2 x1
set_option maxHeartbeats 4000000 in
set_option maxRecDepth 100000 in
theorem bX5_isUnder_28 {p : Program} {l : Launch} {e : Env} {s : State} {m : MethodId} {args : Array Value} {below : List Frame} {meth : Method} {c : Code} {D : va_G} {κ : Nat → ClassId}    {Q : Int32 → Prop} (Cc : Cx D κ RX5 cX5_isUnder 3 (some .boolean) p s m args meth c)    : ∀ (y0 : Int32) (ls : Array Slot) (hl : lv_has ls 3 []) (h : pX5_isUnder_28 Q y0), W p l e rX5_isUnder s m args below meth c s.heap [] 0 0 (MQ below (RQ Q) args s 0 0 (fun _ => False)) (F0 m 28 ls [.int y0]) := by
  obtain ⟨hx, hb, hml, hown, hts, hr, hlk, hE⟩ := id Cc
  intro y0 ls hl h
  unfold pX5_isUnder_28 at h
  exact W.zret (v := y0) (ty := .boolean) hx hb hr (bool_nar h.1) (fun t ht _ => RQ.mk h.2 ht) (fun _ h9 => by cases h9) dX5_isUnder_28 (hlocks := hlk)
set_option maxHeartbeats 4000000 in
set_option maxRecDepth 100000 in
theorem bX5_isUnder_19 {p : Program} {l : Launch} {e : Env} {s : State} {m : MethodId} {args : Array Value} {below : List Frame} {meth : Method} {c : Code} {D : va_G} {κ : Nat → ClassId}    {Q : Int32 → Prop} (Cc : Cx D κ RX5 cX5_isUnder 3 (some .boolean) p s m args meth c)    : ∀ (x2 : Int32) (ls : Array Slot) (hl : lv_has ls 3 [(2, .int x2)]) (h : pX5_isUnder_19 Q x2), W p l e rX5_isUnder s m args below meth c s.heap [] 0 0 (MQ below (RQ Q) args s 0 0 (fun _ => False)) (F0 m 19 ls []) := by
  obtain ⟨hx, hb, hml, hown, hts, hr, hlk, hE⟩ := id Cc
  intro x2 ls hl h
  unfold pX5_isUnder_19 at h
  refine lv_iload_n hx hb dX5_isUnder_19 rfl (lv_at hl 0 rfl) ?_
  refine lv_if_lt (tgt := 27) hx hb dX5_isUnder_20 (by decide) (fun c20 => ?_) (fun c20 => ?_)
  · have h := h.1 c20
    refine lv_iconst (v := 0) hx hb dX5_isUnder_27 (by decide) ?_
    exact bX5_isUnder_28 Cc 0  _ (lv_sub hl [] rfl) h
  · have h := h.2 c20
    refine lv_iconst (v := 1) hx hb dX5_isUnder_23 (by decide) ?_
    refine lv_goto (tgt := 28) hx hb dX5_isUnder_24 (by decide) ?_
    exact bX5_isUnder_28 Cc 1  _ (lv_sub hl [] rfl) h
set_option maxHeartbeats 4000000 in
set_option maxRecDepth 100000 in
theorem bX5_isUnder_2 {p : Program} {l : Launch} {e : Env} {s : State} {m : MethodId} {args : Array Value} {below : List Frame} {meth : Method} {c : Code} {D : va_G} {κ : Nat → ClassId}    {Q : Int32 → Prop} (Cc : Cx D κ RX5 cX5_isUnder 3 (some .boolean) p s m args meth c)    (n : Nat) : ∀ (x1 : Int32) (x2 : Int32) (ls : Array Slot) (hl : lv_has ls 3 [(1, .int x1), (2, .int x2)]) (h : pX5_isUnder_2 Q n x1 x2), W p l e rX5_isUnder s m args below meth c s.heap [] 0 0 (MQ below (RQ Q) args s 0 0 (fun _ => False)) (F0 m 2 ls []) := by
  obtain ⟨hx, hb, hml, hown, hts, hr, hlk, hE⟩ := id Cc
  induction n with
  | zero =>
    intro x1 x2 ls hl h
    exact absurd h (fun z => z)
  | succ n hih2 =>
    intro x1 x2 ls hl h
    have h : pX5_isUnder_2s (pX5_isUnder_2 Q n) Q x1 x2 := h
    unfold pX5_isUnder_2s at h
    refine lv_iload_n hx hb dX5_isUnder_2 rfl (lv_at hl 1 rfl) ?_
    refine lv_if_lt (tgt := 19) hx hb dX5_isUnder_3 (by decide) (fun c3 => ?_) (fun c3 => ?_)
    · have h := h.1 c3
      exact bX5_isUnder_19 Cc x2  _ (lv_sub hl [1] rfl) h
    · have h := h.2 c3
      refine lv_iload_n hx hb dX5_isUnder_6 rfl (lv_at hl 1 rfl) ?_
      refine lv_iload_n hx hb dX5_isUnder_7 rfl (lv_at hl 0 rfl) ?_
      refine lv_icmp_eq (tgt := 19) hx hb dX5_isUnder_8 (by decide) (fun c8 => ?_) (fun c8 => ?_)
      · have h := h.1 c8
        exact bX5_isUnder_19 Cc x2  _ (lv_sub hl [1] rfl) h
      · have h := h.2 c8
        refine lv_iload_n hx hb dX5_isUnder_11 rfl (lv_at hl 1 rfl) ?_
        refine kR (kS Cc (mX5_above l D κ h) (qX5_above hts (tw_1190 hts) ⟨(Nat.le_of_ble_eq_true rfl), (Nat.le_of_ble_eq_true rfl)⟩) (rest := []) trivial rfl hl.1 rfl (Nat.le_of_ble_eq_true rfl) dX5_isUnder_12 ⟨Nat.zero_le _, Nat.zero_le _⟩) (fun r12 h => ?_)
        refine lv_istore_n (lv' := [(2, .int r12), (1, .int x1)]) hx hb dX5_isUnder_15 rfl hl (by decide) rfl (fun ls hl => ?_)
        refine lv_goto (tgt := 2) hx hb dX5_isUnder_16 (by decide) ?_
        exact hih2 x1 r12  _ (lv_sub hl [1, 0] rfl) h
set_option maxHeartbeats 4000000 in
set_option maxRecDepth 100000 in
theorem mX5_isUnder (l : Launch) (D : va_G) (κ : Nat → ClassId)   {x1 : Int32} {x2 : Int32} {Q : Int32 → Prop}  (h : pX5_isUnder  x1 x2 Q) : Met l yX5_isUnder (wz yX5_isUnder cX5_isUnder 3 (some .boolean)) rX5_isUnder (va_Pc [.int x1, .int x2] (PE D κ (fun _ => True))) (RQ Q) 0 0 (fun _ => False) := by
  refine Met_of l (own := RX5) (by decide) rfl (Nat.le_of_ble_eq_true rfl) (fun p e s m below meth c Cc hPP ls hl => ?_)
  obtain ⟨hx, hb, hml, hown, hts, hr, hlk, hE⟩ := id Cc
  have hl : lv_has ls 3 [(0, .int x1), (1, .int x2)] := hl
  unfold pX5_isUnder at h
  refine lv_iload_n hx hb dX5_isUnder_0 rfl (lv_at hl 0 rfl) ?_
  refine lv_istore_n (lv' := [(2, .int x1), (0, .int x1), (1, .int x2)]) hx hb dX5_isUnder_1 rfl hl (by decide) rfl (fun ls hl => ?_)
  obtain ⟨n, h⟩ := h
  exact bX5_isUnder_2 Cc n x2 x1  _ (lv_sub hl [2, 0] rfl) h
theorem qX5_isUnder {R : Room} {s : State} {args : Array Value} {own : String} {idx : Nat} (hts : ∀ w ∈ gG, w.before args s = true) (hl : (Cond.methodLink own idx yX5_isUnder).before args s = true) (hR : rX5_isUnder.frames + 1 ≤ R.frames ∧ 8 + (3 + 11) + rX5_isUnder.locals ≤ R.locals) : CallB R s args own idx yX5_isUnder cX5_isUnder 3 (some .boolean) (wz yX5_isUnder cX5_isUnder 3 (some .boolean)) rX5_isUnder 0 0 2 ∧ (Cond.static yX5_isUnder).before args s = true := ⟨kw 2 hts mw_1189 rfl rfl (tw_75 hts) hl (by decide +kernel) hR, tw_1188 hts⟩
abbrev rX5_as : Room := { frames := 2, cells := 0, slots := 0, locals := 43 }
def pX5_as_14 (Q : Int32 → Mx → Prop) (σ : Mx) : Prop := pX5_finding σ (-1000001) (fun r17 u17 => (Q r17 u17))
def pX5_as_66 (Q : Int32 → Mx → Prop) (y0 : Int32) (σ : Mx) : Prop := Q y0 σ
def pX5_as (σ : Mx) (x1 : Int32) (x2 : Int32) (Q : Int32 → Mx → Prop) : Prop := pX5_isSpot x1 (fun r1 => ((r1 = 0 → (pX5_as_14 Q σ)) ∧ (¬ r1 = 0 → (pX5_isKind x2 (fun r8 => ((¬ r8 = 0 → (vp_in (9 + x1) 67 ∧ (∀ v30 : Int32, v30 = (σ 0 (9 + x1).toNatClampNeg) → ((0 ≤ v30 → (pX5_pieceIs σ v30 0 (fun r45 => (pX5_isUnder r45 x2 (fun r49 => ((r49 = 0 → (pX5_finding σ (-1000003) (fun r63 u63 => (pX5_as_66 Q r63 u63)))) ∧ (¬ r49 = 0 → (pX5_as_66 Q v30 σ)))))))) ∧ (¬ 0 ≤ v30 → (pX5_finding σ (-1000006) (fun r38 u38 => (Q r38 u38)))))))) ∧ (r8 = 0 → (pX5_as_14 Q σ))))))))
set_option maxHeartbeats 4000000 in
set_option maxRecDepth 100000 in
theorem bX5_as_14 {p : Program} {l : Launch} {e : Env} {s : State} {m : MethodId} {args : Array Value} {below : List Frame} {meth : Method} {c : Code} {D : va_G} {κ : Nat → ClassId} {τ : Nat → Nat} {a : Nat → Nat}   {Q : Int32 → Mx → Prop} (Cc : Cx D κ RX5 cX5_as 4 (some .int) p s m args meth c) (hIt : Ij a 13)   : ∀ (σ : Mx) (H : Heap) (locs : List Loc) (hPt : va_P D classes (wMo κ τ a σ) H) (hS : va_S (cA a 13) s.heap H locs) (ls : Array Slot) (hl : lv_has ls 4 [(0, .ref (a 0))]) (h : pX5_as_14 Q σ), W p l e rX5_as s m args below meth c H locs 0 0 (MQ below (QWi Q (fun u H => va_P D classes (wMo κ τ a u) H) (cA a 13)) args s 0 0 (cA a 13)) (F0 m 14 ls []) := by
  obtain ⟨hx, hb, hml, hown, hts, hr, hlk, hE⟩ := id Cc
  intro σ H locs hPt hS ls hl h
  unfold pX5_as_14 at h
  refine lv_aload_n hx hb dX5_as_14 rfl (lv_at hl 0 rfl) ?_
  refine lv_ldc (own := RX5) (v := (-1000001)) hx hb hown (tw_842 hts) dX5_as_15 ?_
  refine kWi (kV Cc (mX5_finding l D κ τ a hIt h) (qX5_finding hts (tw_843 hts) ⟨(Nat.le_of_ble_eq_true rfl), (Nat.le_of_ble_eq_true rfl)⟩) (va_recv hE.1 hPt (ci := 5) (q0 := 0) rfl rfl) (rest := []) hPt rfl hl.1 rfl (Nat.le_of_ble_eq_true rfl) dX5_as_17 ⟨Nat.zero_le _, Nat.zero_le _⟩) hS (fun q h9 => h9) (fun r17 u17 H1 locs1 h hB hk hS1 => ?_)
  have hPt := hB
  have hS := hS1
  exact W.iret (v := r17) hx hb hr (fun t ht _ => QWi.mk (u := u17) h hPt hS ht) hS.2.2 dX5_as_20 (hlocks := hlk)
set_option maxHeartbeats 4000000 in
set_option maxRecDepth 100000 in
theorem bX5_as_66 {p : Program} {l : Launch} {e : Env} {s : State} {m : MethodId} {args : Array Value} {below : List Frame} {meth : Method} {c : Code} {D : va_G} {κ : Nat → ClassId} {τ : Nat → Nat} {a : Nat → Nat}   {Q : Int32 → Mx → Prop} (Cc : Cx D κ RX5 cX5_as 4 (some .int) p s m args meth c) (hIt : Ij a 13)   : ∀ (y0 : Int32) (σ : Mx) (H : Heap) (locs : List Loc) (hPt : va_P D classes (wMo κ τ a σ) H) (hS : va_S (cA a 13) s.heap H locs) (ls : Array Slot) (hl : lv_has ls 4 []) (h : pX5_as_66 Q y0 σ), W p l e rX5_as s m args below meth c H locs 0 0 (MQ below (QWi Q (fun u H => va_P D classes (wMo κ τ a u) H) (cA a 13)) args s 0 0 (cA a 13)) (F0 m 66 ls [.int y0]) := by
  obtain ⟨hx, hb, hml, hown, hts, hr, hlk, hE⟩ := id Cc
  intro y0 σ H locs hPt hS ls hl h
  unfold pX5_as_66 at h
  exact W.iret (v := y0) hx hb hr (fun t ht _ => QWi.mk (u := σ) h hPt hS ht) hS.2.2 dX5_as_66 (hlocks := hlk)
set_option maxHeartbeats 4000000 in
set_option maxRecDepth 100000 in
theorem mX5_as (l : Launch) (D : va_G) (κ : Nat → ClassId) (τ : Nat → Nat) (a : Nat → Nat) {σ : Mx} {x1 : Int32} {x2 : Int32} {Q : Int32 → Mx → Prop} (hIt : Ij a 13) (h : pX5_as σ x1 x2 Q) : Met l yX5_as (wz yX5_as cX5_as 4 (some .int)) rX5_as (va_Pc [.ref (a 0), .int x1, .int x2] (PE D κ (fun H => va_P D classes (wMo κ τ a σ) H))) (QWi Q (fun u H => va_P D classes (wMo κ τ a u) H) (cA a 13)) 0 0 (cA a 13) := by
  refine Met_of l (own := RX5) (by decide) rfl (Nat.le_of_ble_eq_true rfl) (fun p e s m below meth c Cc hPP ls hl => ?_)
  obtain ⟨hx, hb, hml, hown, hts, hr, hlk, hE⟩ := id Cc
  have hl : lv_has ls 4 [(0, .ref (a 0)), (1, .int x1), (2, .int x2)] := hl
  have hPt := hPP
  have hS : va_S (cA a 13) s.heap s.heap [] := va_S.rf
  unfold pX5_as at h
  refine lv_iload_n hx hb dX5_as_0 rfl (lv_at hl 1 rfl) ?_
  refine kR (kS Cc (mX5_isSpot l D κ h) (qX5_isSpot hts (tw_1180 hts) ⟨(Nat.le_of_ble_eq_true rfl), (Nat.le_of_ble_eq_true rfl)⟩) (rest := []) trivial rfl hl.1 rfl (Nat.le_of_ble_eq_true rfl) dX5_as_1 ⟨Nat.zero_le _, Nat.zero_le _⟩) (fun r1 h => ?_)
  refine lv_if_eq (tgt := 14) hx hb dX5_as_4 (by decide) (fun c4 => ?_) (fun c4 => ?_)
  · have h := h.1 c4
    exact bX5_as_14 Cc hIt σ _ _ hPt hS _ (lv_sub hl [0] rfl) h
  · have h := h.2 c4
    refine lv_iload_n hx hb dX5_as_7 rfl (lv_at hl 2 rfl) ?_
    refine kR (kS Cc (mX5_isKind l D κ h) (qX5_isKind hts (tw_855 hts) ⟨(Nat.le_of_ble_eq_true rfl), (Nat.le_of_ble_eq_true rfl)⟩) (rest := []) trivial rfl hl.1 rfl (Nat.le_of_ble_eq_true rfl) dX5_as_8 ⟨Nat.zero_le _, Nat.zero_le _⟩) (fun r8 h => ?_)
    refine lv_if_ne (tgt := 21) hx hb dX5_as_11 (by decide) (fun c11 => ?_) (fun c11 => ?_)
    · have h := h.1 c11
      refine lv_aload_n hx hb dX5_as_21 rfl (lv_at hl 0 rfl) ?_
      refine gMo_0 Cc hPt (tw_761 hts) dX5_as_22 ?_
      refine lv_bipush (v := 9) hx hb dX5_as_25 (by decide) ?_
      refine lv_iload_n hx hb dX5_as_27 rfl (lv_at hl 1 rfl) ?_
      refine lv_iadd hx hb dX5_as_28 ?_
      refine lMo_0 Cc hPt h.1 dX5_as_29 ?_
      have h := h.2
      refine lv_topi (fun v30 e30 => ?_)
      have h := h v30 e30
      refine lv_istore_n (lv' := [(3, .int v30), (0, .ref (a 0)), (1, .int x1), (2, .int x2)]) hx hb dX5_as_30 rfl hl (by decide) rfl (fun ls hl => ?_)
      refine lv_iload_n hx hb dX5_as_31 rfl (lv_at hl 0 rfl) ?_
      refine lv_if_ge (tgt := 42) hx hb dX5_as_32 (by decide) (fun c32 => ?_) (fun c32 => ?_)
      · have h := h.1 c32
        refine lv_aload_n hx hb dX5_as_42 rfl (lv_at hl 1 rfl) ?_
        refine lv_iload_n hx hb dX5_as_43 rfl (lv_at hl 0 rfl) ?_
        refine lv_iconst (v := 0) hx hb dX5_as_44 (by decide) ?_
        refine kR (kV Cc (mX5_pieceIs l D κ τ a h) (qX5_pieceIs hts (tw_889 hts) ⟨(Nat.le_of_ble_eq_true rfl), (Nat.le_of_ble_eq_true rfl)⟩) (va_recv hE.1 hPt (ci := 5) (q0 := 0) rfl rfl) (rest := []) hPt rfl hl.1 rfl (Nat.le_of_ble_eq_true rfl) dX5_as_45 ⟨Nat.zero_le _, Nat.zero_le _⟩) (fun r45 h => ?_)
        refine lv_iload_n hx hb dX5_as_48 rfl (lv_at hl 3 rfl) ?_
        refine kR (kS Cc (mX5_isUnder l D κ h) (qX5_isUnder hts (tw_1187 hts) ⟨(Nat.le_of_ble_eq_true rfl), (Nat.le_of_ble_eq_true rfl)⟩) (rest := []) trivial rfl hl.1 rfl (Nat.le_of_ble_eq_true rfl) dX5_as_49 ⟨Nat.zero_le _, Nat.zero_le _⟩) (fun r49 h => ?_)
        refine lv_if_eq (tgt := 59) hx hb dX5_as_52 (by decide) (fun c52 => ?_) (fun c52 => ?_)
        · have h := h.1 c52
          refine lv_aload_n hx hb dX5_as_59 rfl (lv_at hl 1 rfl) ?_
          refine lv_ldcw (own := RX5) (v := (-1000003)) hx hb hown (tw_1193 hts) dX5_as_60 ?_
          refine kWi (kV Cc (mX5_finding l D κ τ a hIt h) (qX5_finding hts (tw_843 hts) ⟨(Nat.le_of_ble_eq_true rfl), (Nat.le_of_ble_eq_true rfl)⟩) (va_recv hE.1 hPt (ci := 5) (q0 := 0) rfl rfl) (rest := []) hPt rfl hl.1 rfl (Nat.le_of_ble_eq_true rfl) dX5_as_63 ⟨Nat.zero_le _, Nat.zero_le _⟩) hS (fun q h9 => h9) (fun r63 u63 H1 locs1 h hB hk hS1 => ?_)
          have hPt := hB
          have hS := hS1
          exact bX5_as_66 Cc hIt r63 u63 _ _ hPt hS _ (lv_sub hl [] rfl) h
        · have h := h.2 c52
          refine lv_iload_n hx hb dX5_as_55 rfl (lv_at hl 0 rfl) ?_
          refine lv_goto (tgt := 66) hx hb dX5_as_56 (by decide) ?_
          exact bX5_as_66 Cc hIt v30 σ _ _ hPt hS _ (lv_sub hl [] rfl) h
      · have h := h.2 c32
        refine lv_aload_n hx hb dX5_as_35 rfl (lv_at hl 1 rfl) ?_
        refine lv_ldc (own := RX5) (v := (-1000006)) hx hb hown (tw_1088 hts) dX5_as_36 ?_
        refine kWi (kV Cc (mX5_finding l D κ τ a hIt h) (qX5_finding hts (tw_843 hts) ⟨(Nat.le_of_ble_eq_true rfl), (Nat.le_of_ble_eq_true rfl)⟩) (va_recv hE.1 hPt (ci := 5) (q0 := 0) rfl rfl) (rest := []) hPt rfl hl.1 rfl (Nat.le_of_ble_eq_true rfl) dX5_as_38 ⟨Nat.zero_le _, Nat.zero_le _⟩) hS (fun q h9 => h9) (fun r38 u38 H1 locs1 h hB hk hS1 => ?_)
        have hPt := hB
        have hS := hS1
        exact W.iret (v := r38) hx hb hr (fun t ht _ => QWi.mk (u := u38) h hPt hS ht) hS.2.2 dX5_as_41 (hlocks := hlk)
    · have h := h.2 c11
      exact bX5_as_14 Cc hIt σ _ _ hPt hS _ (lv_sub hl [0] rfl) h
theorem qX5_as {R : Room} {s : State} {args : Array Value} {own : String} {idx : Nat} (hts : ∀ w ∈ gG, w.before args s = true) (hl : (Cond.methodLink own idx yX5_as).before args s = true) (hR : rX5_as.frames + 1 ≤ R.frames ∧ 8 + (4 + 11) + rX5_as.locals ≤ R.locals) : CallW R s args own RX5 idx yX5_as cX5_as 4 (some .int) (wz yX5_as cX5_as 4 (some .int)) rX5_as 0 0 2 := ⟨kw 2 hts mw_1186 rfl rfl (tw_75 hts) hl (by decide +kernel) hR, tw_1184 hts, tw_1185 hts⟩
abbrev rX5_cutTo : Room := { frames := 0, cells := 0, slots := 0, locals := 0 }
def pX5_cutTo_23 (Q : Int32 → Prop) (y0 : Int32) : Prop := Q y0
def pX5_cutTo  (x1 : Int32) (x2 : Int32) (Q : Int32 → Prop) : Prop := (¬ x2 = 8 → ((¬ x2 = 16 → (pX5_cutTo_23 Q x1)) ∧ (x2 = 16 → (pX5_cutTo_23 Q x1.toInt16.toInt32)))) ∧ (x2 = 8 → (pX5_cutTo_23 Q x1.toInt8.toInt32))
set_option maxHeartbeats 4000000 in
set_option maxRecDepth 100000 in
theorem bX5_cutTo_23 {p : Program} {l : Launch} {e : Env} {s : State} {m : MethodId} {args : Array Value} {below : List Frame} {meth : Method} {c : Code} {D : va_G} {κ : Nat → ClassId}    {Q : Int32 → Prop} (Cc : Cx D κ RX5 cX5_cutTo 2 (some .int) p s m args meth c)    : ∀ (y0 : Int32) (ls : Array Slot) (hl : lv_has ls 2 []) (h : pX5_cutTo_23 Q y0), W p l e rX5_cutTo s m args below meth c s.heap [] 0 0 (MQ below (RQ Q) args s 0 0 (fun _ => False)) (F0 m 23 ls [.int y0]) := by
  obtain ⟨hx, hb, hml, hown, hts, hr, hlk, hE⟩ := id Cc
  intro y0 ls hl h
  unfold pX5_cutTo_23 at h
  exact W.iret (v := y0) hx hb hr (fun t ht _ => RQ.mk h ht) (fun _ h9 => by cases h9) dX5_cutTo_23 (hlocks := hlk)
set_option maxHeartbeats 4000000 in
set_option maxRecDepth 100000 in
theorem mX5_cutTo (l : Launch) (D : va_G) (κ : Nat → ClassId)   {x1 : Int32} {x2 : Int32} {Q : Int32 → Prop}  (h : pX5_cutTo  x1 x2 Q) : Met l yX5_cutTo (wz yX5_cutTo cX5_cutTo 2 (some .int)) rX5_cutTo (va_Pc [.int x1, .int x2] (PE D κ (fun _ => True))) (RQ Q) 0 0 (fun _ => False) := by
  refine Met_of l (own := RX5) (by decide) rfl (Nat.le_of_ble_eq_true rfl) (fun p e s m below meth c Cc hPP ls hl => ?_)
  obtain ⟨hx, hb, hml, hown, hts, hr, hlk, hE⟩ := id Cc
  have hl : lv_has ls 2 [(0, .int x1), (1, .int x2)] := hl
  unfold pX5_cutTo at h
  refine lv_iload_n hx hb dX5_cutTo_0 rfl (lv_at hl 1 rfl) ?_
  refine lv_bipush (v := 8) hx hb dX5_cutTo_1 (by decide) ?_
  refine lv_icmp_ne (tgt := 11) hx hb dX5_cutTo_3 (by decide) (fun c3 => ?_) (fun c3 => ?_)
  · have h := h.1 c3
    refine lv_iload_n hx hb dX5_cutTo_11 rfl (lv_at hl 1 rfl) ?_
    refine lv_bipush (v := 16) hx hb dX5_cutTo_12 (by decide) ?_
    refine lv_icmp_ne (tgt := 22) hx hb dX5_cutTo_14 (by decide) (fun c14 => ?_) (fun c14 => ?_)
    · have h := h.1 c14
      refine lv_iload_n hx hb dX5_cutTo_22 rfl (lv_at hl 0 rfl) ?_
      exact bX5_cutTo_23 Cc x1  _ (lv_sub hl [] rfl) h
    · have h := h.2 c14
      refine lv_iload_n hx hb dX5_cutTo_17 rfl (lv_at hl 0 rfl) ?_
      refine lv_i2s (v := x1.toInt16.toInt32) hx hb dX5_cutTo_18 rfl ?_
      refine lv_goto (tgt := 23) hx hb dX5_cutTo_19 (by decide) ?_
      exact bX5_cutTo_23 Cc x1.toInt16.toInt32  _ (lv_sub hl [] rfl) h
  · have h := h.2 c3
    refine lv_iload_n hx hb dX5_cutTo_6 rfl (lv_at hl 0 rfl) ?_
    refine lv_i2b (v := x1.toInt8.toInt32) hx hb dX5_cutTo_7 rfl ?_
    refine lv_goto (tgt := 23) hx hb dX5_cutTo_8 (by decide) ?_
    exact bX5_cutTo_23 Cc x1.toInt8.toInt32  _ (lv_sub hl [] rfl) h
theorem qX5_cutTo {R : Room} {s : State} {args : Array Value} {own : String} {idx : Nat} (hts : ∀ w ∈ gG, w.before args s = true) (hl : (Cond.methodLink own idx yX5_cutTo).before args s = true) (hR : rX5_cutTo.frames + 1 ≤ R.frames ∧ 8 + (2 + 11) + rX5_cutTo.locals ≤ R.locals) : CallB R s args own idx yX5_cutTo cX5_cutTo 2 (some .int) (wz yX5_cutTo cX5_cutTo 2 (some .int)) rX5_cutTo 0 0 2 ∧ (Cond.static yX5_cutTo).before args s = true := ⟨kw 2 hts mw_1205 rfl rfl (tw_75 hts) hl (by decide +kernel) hR, tw_1204 hts⟩
abbrev rX5_sheet : Room := { frames := 2, cells := 0, slots := 0, locals := 42 }
def pX5_sheet_29 (Q : Int32 → Mx → Prop) (σ : Mx) : Prop := pX5_finding σ (-1000001) (fun r32 u32 => (Q r32 u32))
def pX5_sheet_86s  (ih86 : Int32 → Int32 → Mx → Prop) (Q : Int32 → Mx → Prop) (x1 : Int32) (x4 : Int32) (σ : Mx) : Prop := (40 ≤ x4 → (vp_in x1 4 ∧ (Q (σ 18 x1.toNatClampNeg) σ))) ∧ (¬ 40 ≤ x4 → (vp_in ((40 * x1) + x4) 160 ∧ (ih86 x1 (x4 + 1) (st σ 19 ((40 * x1) + x4).toNatClampNeg 0))))
noncomputable def pX5_sheet_86 (Q : Int32 → Mx → Prop) (n : Nat) : Int32 → Int32 → Mx → Prop := Nat.rec (motive := fun _ => Int32 → Int32 → Mx → Prop) (fun _ _ _ => False) (fun _ ih => pX5_sheet_86s ih Q) n
def pX5_sheet_82 (Q : Int32 → Mx → Prop) (x1 : Int32) (y0 : Int32) (y1 : Int32) (σ : Mx) : Prop := vp_in y1 4 ∧ (∃ n, pX5_sheet_86 Q n x1 0 (st σ 18 y1.toNatClampNeg y0))
def pX5_sheet_36 (Q : Int32 → Mx → Prop) (x1 : Int32) (x2 : Int32) (x3 : Int32) (σ : Mx) : Prop := (0 ≤ x3 → ((x3 ≤ 40 → (vp_in x1 4 ∧ ((¬ x2 = 0 → (pX5_sheet_82 Q x1 x3 x1 (st σ 17 x1.toNatClampNeg x2))) ∧ (x2 = 0 → (pX5_sheet_82 Q x1 0 x1 (st σ 17 x1.toNatClampNeg x2)))))) ∧ (¬ x3 ≤ 40 → (pX5_finding σ (-1000001) (fun r57 u57 => (Q r57 u57)))))) ∧ (¬ 0 ≤ x3 → (pX5_finding σ (-1000007) (fun r44 u44 => (Q r44 u44))))
def pX5_sheet (σ : Mx) (x1 : Int32) (x2 : Int32) (x3 : Int32) (Q : Int32 → Mx → Prop) : Prop := pX5_isSheet x1 (fun r1 => ((r1 = 0 → (pX5_sheet_29 Q σ)) ∧ (¬ r1 = 0 → ((x2 = 0 → (pX5_sheet_36 Q x1 x2 x3 σ)) ∧ (¬ x2 = 0 → ((x2 = 8 → (pX5_sheet_36 Q x1 x2 x3 σ)) ∧ (¬ x2 = 8 → ((x2 = 16 → (pX5_sheet_36 Q x1 x2 x3 σ)) ∧ (¬ x2 = 16 → ((x2 = 32 → (pX5_sheet_36 Q x1 x2 x3 σ)) ∧ (¬ x2 = 32 → (pX5_sheet_29 Q σ))))))))))))
set_option maxHeartbeats 4000000 in
set_option maxRecDepth 100000 in
theorem bX5_sheet_29 {p : Program} {l : Launch} {e : Env} {s : State} {m : MethodId} {args : Array Value} {below : List Frame} {meth : Method} {c : Code} {D : va_G} {κ : Nat → ClassId} {τ : Nat → Nat} {a : Nat → Nat}   {Q : Int32 → Mx → Prop} (Cc : Cx D κ RX5 cX5_sheet 5 (some .int) p s m args meth c) (hIt : Ij a 13)   : ∀ (σ : Mx) (H : Heap) (locs : List Loc) (hPt : va_P D classes (wMo κ τ a σ) H) (hS : va_S (cA a 13) s.heap H locs) (ls : Array Slot) (hl : lv_has ls 5 [(0, .ref (a 0))]) (h : pX5_sheet_29 Q σ), W p l e rX5_sheet s m args below meth c H locs 0 0 (MQ below (QWi Q (fun u H => va_P D classes (wMo κ τ a u) H) (cA a 13)) args s 0 0 (cA a 13)) (F0 m 29 ls []) := by
  obtain ⟨hx, hb, hml, hown, hts, hr, hlk, hE⟩ := id Cc
  intro σ H locs hPt hS ls hl h
  unfold pX5_sheet_29 at h
  refine lv_aload_n hx hb dX5_sheet_29 rfl (lv_at hl 0 rfl) ?_
  refine lv_ldc (own := RX5) (v := (-1000001)) hx hb hown (tw_842 hts) dX5_sheet_30 ?_
  refine kWi (kV Cc (mX5_finding l D κ τ a hIt h) (qX5_finding hts (tw_843 hts) ⟨(Nat.le_of_ble_eq_true rfl), (Nat.le_of_ble_eq_true rfl)⟩) (va_recv hE.1 hPt (ci := 5) (q0 := 0) rfl rfl) (rest := []) hPt rfl hl.1 rfl (Nat.le_of_ble_eq_true rfl) dX5_sheet_32 ⟨Nat.zero_le _, Nat.zero_le _⟩) hS (fun q h9 => h9) (fun r32 u32 H1 locs1 h hB hk hS1 => ?_)
  have hPt := hB
  have hS := hS1
  exact W.iret (v := r32) hx hb hr (fun t ht _ => QWi.mk (u := u32) h hPt hS ht) hS.2.2 dX5_sheet_35 (hlocks := hlk)
set_option maxHeartbeats 4000000 in
set_option maxRecDepth 100000 in
theorem bX5_sheet_86 {p : Program} {l : Launch} {e : Env} {s : State} {m : MethodId} {args : Array Value} {below : List Frame} {meth : Method} {c : Code} {D : va_G} {κ : Nat → ClassId} {τ : Nat → Nat} {a : Nat → Nat}   {Q : Int32 → Mx → Prop} (Cc : Cx D κ RX5 cX5_sheet 5 (some .int) p s m args meth c) (hIt : Ij a 13)   (n : Nat) : ∀ (x1 : Int32) (x4 : Int32) (σ : Mx) (H : Heap) (locs : List Loc) (hPt : va_P D classes (wMo κ τ a σ) H) (hS : va_S (cA a 13) s.heap H locs) (ls : Array Slot) (hl : lv_has ls 5 [(0, .ref (a 0)), (1, .int x1), (4, .int x4)]) (h : pX5_sheet_86 Q n x1 x4 σ), W p l e rX5_sheet s m args below meth c H locs 0 0 (MQ below (QWi Q (fun u H => va_P D classes (wMo κ τ a u) H) (cA a 13)) args s 0 0 (cA a 13)) (F0 m 86 ls []) := by
  obtain ⟨hx, hb, hml, hown, hts, hr, hlk, hE⟩ := id Cc
  induction n with
  | zero =>
    intro x1 x4 σ H locs hPt hS ls hl h
    exact absurd h (fun z => z)
  | succ n hih86 =>
    intro x1 x4 σ H locs hPt hS ls hl h
    have h : pX5_sheet_86s (pX5_sheet_86 Q n) Q x1 x4 σ := h
    unfold pX5_sheet_86s at h
    refine lv_iload hx hb dX5_sheet_86 (lv_at hl 2 rfl) ?_
    refine lv_bipush (v := 40) hx hb dX5_sheet_88 (by decide) ?_
    refine lv_icmp_ge (tgt := 112) hx hb dX5_sheet_90 (by decide) (fun c90 => ?_) (fun c90 => ?_)
    · have h := h.1 c90
      refine lv_aload_n hx hb dX5_sheet_112 rfl (lv_at hl 0 rfl) ?_
      refine gMo_18 Cc hPt (tw_779 hts) dX5_sheet_113 ?_
      refine lv_iload_n hx hb dX5_sheet_116 rfl (lv_at hl 1 rfl) ?_
      refine lMo_18 Cc hPt h.1 dX5_sheet_117 ?_
      have h := h.2
      exact W.iret (v := (σ 18 x1.toNatClampNeg)) hx hb hr (fun t ht _ => QWi.mk (u := σ) h hPt hS ht) hS.2.2 dX5_sheet_118 (hlocks := hlk)
    · have h := h.2 c90
      refine lv_aload_n hx hb dX5_sheet_93 rfl (lv_at hl 0 rfl) ?_
      refine gMo_19 Cc hPt (tw_780 hts) dX5_sheet_94 ?_
      refine lv_bipush (v := 40) hx hb dX5_sheet_97 (by decide) ?_
      refine lv_iload_n hx hb dX5_sheet_99 rfl (lv_at hl 1 rfl) ?_
      refine lv_imul hx hb dX5_sheet_100 ?_
      refine lv_iload hx hb dX5_sheet_101 (lv_at hl 2 rfl) ?_
      refine lv_iadd hx hb dX5_sheet_103 ?_
      refine lv_iconst (v := 0) hx hb dX5_sheet_104 (by decide) ?_
      refine sMo_19 Cc hPt hIt hS ⟨11, by decide, rfl⟩ h.1 dX5_sheet_105 (fun H1 locs1 hB hS1 hk => ?_)
      have h := h.2
      have hPt := hB
      have hS := hS1
      refine lv_iinc (v := (x4 + 1)) (lv' := [(4, .int (x4 + 1)), (0, .ref (a 0)), (1, .int x1)]) hx hb dX5_sheet_106 hl (k := 2) rfl rfl (by decide) rfl (fun ls hl => ?_)
      refine lv_goto (tgt := 86) hx hb dX5_sheet_109 (by decide) ?_
      exact hih86 x1 (x4 + 1) (st σ 19 ((40 * x1) + x4).toNatClampNeg 0) _ _ hPt hS _ (lv_sub hl [1, 2, 0] rfl) h
set_option maxHeartbeats 4000000 in
set_option maxRecDepth 100000 in
theorem bX5_sheet_82 {p : Program} {l : Launch} {e : Env} {s : State} {m : MethodId} {args : Array Value} {below : List Frame} {meth : Method} {c : Code} {D : va_G} {κ : Nat → ClassId} {τ : Nat → Nat} {a : Nat → Nat}   {Q : Int32 → Mx → Prop} (Cc : Cx D κ RX5 cX5_sheet 5 (some .int) p s m args meth c) (hIt : Ij a 13)   : ∀ (x1 : Int32) (y0 : Int32) (y1 : Int32) (σ : Mx) (H : Heap) (locs : List Loc) (hPt : va_P D classes (wMo κ τ a σ) H) (hS : va_S (cA a 13) s.heap H locs) (ls : Array Slot) (hl : lv_has ls 5 [(0, .ref (a 0)), (1, .int x1)]) (h : pX5_sheet_82 Q x1 y0 y1 σ), W p l e rX5_sheet s m args below meth c H locs 0 0 (MQ below (QWi Q (fun u H => va_P D classes (wMo κ τ a u) H) (cA a 13)) args s 0 0 (cA a 13)) (F0 m 82 ls [.int y0, .int y1, .ref (a 10)]) := by
  obtain ⟨hx, hb, hml, hown, hts, hr, hlk, hE⟩ := id Cc
  intro x1 y0 y1 σ H locs hPt hS ls hl h
  unfold pX5_sheet_82 at h
  refine sMo_18 Cc hPt hIt hS ⟨10, by decide, rfl⟩ h.1 dX5_sheet_82 (fun H1 locs1 hB hS1 hk => ?_)
  have h := h.2
  have hPt := hB
  have hS := hS1
  refine lv_iconst (v := 0) hx hb dX5_sheet_83 (by decide) ?_
  refine lv_istore (lv' := [(4, .int 0), (0, .ref (a 0)), (1, .int x1)]) hx hb dX5_sheet_84 hl (by decide) rfl (fun ls hl => ?_)
  obtain ⟨n, h⟩ := h
  exact bX5_sheet_86 Cc hIt n x1 0 (st σ 18 y1.toNatClampNeg y0) _ _ hPt hS _ (lv_sub hl [1, 2, 0] rfl) h
set_option maxHeartbeats 4000000 in
set_option maxRecDepth 100000 in
theorem bX5_sheet_36 {p : Program} {l : Launch} {e : Env} {s : State} {m : MethodId} {args : Array Value} {below : List Frame} {meth : Method} {c : Code} {D : va_G} {κ : Nat → ClassId} {τ : Nat → Nat} {a : Nat → Nat}   {Q : Int32 → Mx → Prop} (Cc : Cx D κ RX5 cX5_sheet 5 (some .int) p s m args meth c) (hIt : Ij a 13)   : ∀ (x1 : Int32) (x2 : Int32) (x3 : Int32) (σ : Mx) (H : Heap) (locs : List Loc) (hPt : va_P D classes (wMo κ τ a σ) H) (hS : va_S (cA a 13) s.heap H locs) (ls : Array Slot) (hl : lv_has ls 5 [(0, .ref (a 0)), (1, .int x1), (2, .int x2), (3, .int x3)]) (h : pX5_sheet_36 Q x1 x2 x3 σ), W p l e rX5_sheet s m args below meth c H locs 0 0 (MQ below (QWi Q (fun u H => va_P D classes (wMo κ τ a u) H) (cA a 13)) args s 0 0 (cA a 13)) (F0 m 36 ls []) := by
  obtain ⟨hx, hb, hml, hown, hts, hr, hlk, hE⟩ := id Cc
  intro x1 x2 x3 σ H locs hPt hS ls hl h
  unfold pX5_sheet_36 at h
  refine lv_iload_n hx hb dX5_sheet_36 rfl (lv_at hl 3 rfl) ?_
  refine lv_if_ge (tgt := 48) hx hb dX5_sheet_37 (by decide) (fun c37 => ?_) (fun c37 => ?_)
  · have h := h.1 c37
    refine lv_iload_n hx hb dX5_sheet_48 rfl (lv_at hl 3 rfl) ?_
    refine lv_bipush (v := 40) hx hb dX5_sheet_49 (by decide) ?_
    refine lv_icmp_le (tgt := 61) hx hb dX5_sheet_51 (by decide) (fun c51 => ?_) (fun c51 => ?_)
    · have h := h.1 c51
      refine lv_aload_n hx hb dX5_sheet_61 rfl (lv_at hl 0 rfl) ?_
      refine gMo_17 Cc hPt (tw_778 hts) dX5_sheet_62 ?_
      refine lv_iload_n hx hb dX5_sheet_65 rfl (lv_at hl 1 rfl) ?_
      refine lv_iload_n hx hb dX5_sheet_66 rfl (lv_at hl 2 rfl) ?_
      refine sMo_17 Cc hPt hIt hS ⟨9, by decide, rfl⟩ h.1 dX5_sheet_67 (fun H1 locs1 hB hS1 hk => ?_)
      have h := h.2
      have hPt := hB
      have hS := hS1
      refine lv_aload_n hx hb dX5_sheet_68 rfl (lv_at hl 0 rfl) ?_
      refine gMo_18 Cc hPt (tw_779 hts) dX5_sheet_69 ?_
      refine lv_iload_n hx hb dX5_sheet_72 rfl (lv_at hl 1 rfl) ?_
      refine lv_iload_n hx hb dX5_sheet_73 rfl (lv_at hl 2 rfl) ?_
      refine lv_if_ne (tgt := 81) hx hb dX5_sheet_74 (by decide) (fun c74 => ?_) (fun c74 => ?_)
      · have h := h.1 c74
        refine lv_iload_n hx hb dX5_sheet_81 rfl (lv_at hl 3 rfl) ?_
        exact bX5_sheet_82 Cc hIt x1 x3 x1 (st σ 17 x1.toNatClampNeg x2) _ _ hPt hS _ (lv_sub hl [0, 1] rfl) h
      · have h := h.2 c74
        refine lv_iconst (v := 0) hx hb dX5_sheet_77 (by decide) ?_
        refine lv_goto (tgt := 82) hx hb dX5_sheet_78 (by decide) ?_
        exact bX5_sheet_82 Cc hIt x1 0 x1 (st σ 17 x1.toNatClampNeg x2) _ _ hPt hS _ (lv_sub hl [0, 1] rfl) h
    · have h := h.2 c51
      refine lv_aload_n hx hb dX5_sheet_54 rfl (lv_at hl 0 rfl) ?_
      refine lv_ldc (own := RX5) (v := (-1000001)) hx hb hown (tw_842 hts) dX5_sheet_55 ?_
      refine kWi (kV Cc (mX5_finding l D κ τ a hIt h) (qX5_finding hts (tw_843 hts) ⟨(Nat.le_of_ble_eq_true rfl), (Nat.le_of_ble_eq_true rfl)⟩) (va_recv hE.1 hPt (ci := 5) (q0 := 0) rfl rfl) (rest := []) hPt rfl hl.1 rfl (Nat.le_of_ble_eq_true rfl) dX5_sheet_57 ⟨Nat.zero_le _, Nat.zero_le _⟩) hS (fun q h9 => h9) (fun r57 u57 H1 locs1 h hB hk hS1 => ?_)
      have hPt := hB
      have hS := hS1
      exact W.iret (v := r57) hx hb hr (fun t ht _ => QWi.mk (u := u57) h hPt hS ht) hS.2.2 dX5_sheet_60 (hlocks := hlk)
  · have h := h.2 c37
    refine lv_aload_n hx hb dX5_sheet_40 rfl (lv_at hl 0 rfl) ?_
    refine lv_ldcw (own := RX5) (v := (-1000007)) hx hb hown (tw_1198 hts) dX5_sheet_41 ?_
    refine kWi (kV Cc (mX5_finding l D κ τ a hIt h) (qX5_finding hts (tw_843 hts) ⟨(Nat.le_of_ble_eq_true rfl), (Nat.le_of_ble_eq_true rfl)⟩) (va_recv hE.1 hPt (ci := 5) (q0 := 0) rfl rfl) (rest := []) hPt rfl hl.1 rfl (Nat.le_of_ble_eq_true rfl) dX5_sheet_44 ⟨Nat.zero_le _, Nat.zero_le _⟩) hS (fun q h9 => h9) (fun r44 u44 H1 locs1 h hB hk hS1 => ?_)
    have hPt := hB
    have hS := hS1
    exact W.iret (v := r44) hx hb hr (fun t ht _ => QWi.mk (u := u44) h hPt hS ht) hS.2.2 dX5_sheet_47 (hlocks := hlk)
set_option maxHeartbeats 4000000 in
set_option maxRecDepth 100000 in
theorem mX5_sheet (l : Launch) (D : va_G) (κ : Nat → ClassId) (τ : Nat → Nat) (a : Nat → Nat) {σ : Mx} {x1 : Int32} {x2 : Int32} {x3 : Int32} {Q : Int32 → Mx → Prop} (hIt : Ij a 13) (h : pX5_sheet σ x1 x2 x3 Q) : Met l yX5_sheet (wz yX5_sheet cX5_sheet 5 (some .int)) rX5_sheet (va_Pc [.ref (a 0), .int x1, .int x2, .int x3] (PE D κ (fun H => va_P D classes (wMo κ τ a σ) H))) (QWi Q (fun u H => va_P D classes (wMo κ τ a u) H) (cA a 13)) 0 0 (cA a 13) := by
  refine Met_of l (own := RX5) (by decide) rfl (Nat.le_of_ble_eq_true rfl) (fun p e s m below meth c Cc hPP ls hl => ?_)
  obtain ⟨hx, hb, hml, hown, hts, hr, hlk, hE⟩ := id Cc
  have hl : lv_has ls 5 [(0, .ref (a 0)), (1, .int x1), (2, .int x2), (3, .int x3)] := hl
  have hPt := hPP
  have hS : va_S (cA a 13) s.heap s.heap [] := va_S.rf
  unfold pX5_sheet at h
  refine lv_iload_n hx hb dX5_sheet_0 rfl (lv_at hl 1 rfl) ?_
  refine kR (kS Cc (mX5_isSheet l D κ h) (qX5_isSheet hts (tw_1085 hts) ⟨(Nat.le_of_ble_eq_true rfl), (Nat.le_of_ble_eq_true rfl)⟩) (rest := []) trivial rfl hl.1 rfl (Nat.le_of_ble_eq_true rfl) dX5_sheet_1 ⟨Nat.zero_le _, Nat.zero_le _⟩) (fun r1 h => ?_)
  refine lv_if_eq (tgt := 29) hx hb dX5_sheet_4 (by decide) (fun c4 => ?_) (fun c4 => ?_)
  · have h := h.1 c4
    exact bX5_sheet_29 Cc hIt σ _ _ hPt hS _ (lv_sub hl [0] rfl) h
  · have h := h.2 c4
    refine lv_iload_n hx hb dX5_sheet_7 rfl (lv_at hl 2 rfl) ?_
    refine lv_if_eq (tgt := 36) hx hb dX5_sheet_8 (by decide) (fun c8 => ?_) (fun c8 => ?_)
    · have h := h.1 c8
      exact bX5_sheet_36 Cc hIt x1 x2 x3 σ _ _ hPt hS _ (lv_sub hl [0, 1, 2, 3] rfl) h
    · have h := h.2 c8
      refine lv_iload_n hx hb dX5_sheet_11 rfl (lv_at hl 2 rfl) ?_
      refine lv_bipush (v := 8) hx hb dX5_sheet_12 (by decide) ?_
      refine lv_icmp_eq (tgt := 36) hx hb dX5_sheet_14 (by decide) (fun c14 => ?_) (fun c14 => ?_)
      · have h := h.1 c14
        exact bX5_sheet_36 Cc hIt x1 x2 x3 σ _ _ hPt hS _ (lv_sub hl [0, 1, 2, 3] rfl) h
      · have h := h.2 c14
        refine lv_iload_n hx hb dX5_sheet_17 rfl (lv_at hl 2 rfl) ?_
        refine lv_bipush (v := 16) hx hb dX5_sheet_18 (by decide) ?_
        refine lv_icmp_eq (tgt := 36) hx hb dX5_sheet_20 (by decide) (fun c20 => ?_) (fun c20 => ?_)
        · have h := h.1 c20
          exact bX5_sheet_36 Cc hIt x1 x2 x3 σ _ _ hPt hS _ (lv_sub hl [0, 1, 2, 3] rfl) h
        · have h := h.2 c20
          refine lv_iload_n hx hb dX5_sheet_23 rfl (lv_at hl 2 rfl) ?_
          refine lv_bipush (v := 32) hx hb dX5_sheet_24 (by decide) ?_
          refine lv_icmp_eq (tgt := 36) hx hb dX5_sheet_26 (by decide) (fun c26 => ?_) (fun c26 => ?_)
          · have h := h.1 c26
            exact bX5_sheet_36 Cc hIt x1 x2 x3 σ _ _ hPt hS _ (lv_sub hl [0, 1, 2, 3] rfl) h
          · have h := h.2 c26
            exact bX5_sheet_29 Cc hIt σ _ _ hPt hS _ (lv_sub hl [0] rfl) h
theorem qX5_sheet {R : Room} {s : State} {args : Array Value} {own : String} {idx : Nat} (hts : ∀ w ∈ gG, w.before args s = true) (hl : (Cond.methodLink own idx yX5_sheet).before args s = true) (hR : rX5_sheet.frames + 1 ≤ R.frames ∧ 8 + (5 + 11) + rX5_sheet.locals ≤ R.locals) : CallW R s args own RX5 idx yX5_sheet cX5_sheet 5 (some .int) (wz yX5_sheet cX5_sheet 5 (some .int)) rX5_sheet 0 0 3 := ⟨kw 3 hts mw_1197 rfl rfl (tw_75 hts) hl (by decide +kernel) hR, tw_1195 hts, tw_1196 hts⟩
abbrev rX5_write : Room := { frames := 2, cells := 0, slots := 0, locals := 42 }
def pX5_write (σ : Mx) (x1 : Int32) (x2 : Int32) (x3 : Int32) (Q : Int32 → Mx → Prop) : Prop := pX5_isSheet x1 (fun r1 => ((¬ r1 = 0 → (vp_in x1 4 ∧ ((¬ (σ 17 x1.toNatClampNeg) = 0 → (vp_in x1 4 ∧ (pX5_within x2 0 ((σ 18 x1.toNatClampNeg) - 1) (fun r40 => ((¬ r40 = 0 → (vp_in x1 4 ∧ (pX5_cutTo x3 (σ 17 x1.toNatClampNeg) (fun r70 => (vp_in ((40 * x1) + x2) 160 ∧ (Q 1 (st σ 19 ((40 * x1) + x2).toNatClampNeg r70))))))) ∧ (r40 = 0 → (pX5_finding σ (-1000001) (fun r49 u49 => (Q r49 u49))))))))) ∧ ((σ 17 x1.toNatClampNeg) = 0 → (pX5_finding σ (-1000006) (fun r26 u26 => (Q r26 u26))))))) ∧ (r1 = 0 → (pX5_finding σ (-1000001) (fun r10 u10 => (Q r10 u10))))))
set_option maxHeartbeats 4000000 in
set_option maxRecDepth 100000 in
theorem mX5_write (l : Launch) (D : va_G) (κ : Nat → ClassId) (τ : Nat → Nat) (a : Nat → Nat) {σ : Mx} {x1 : Int32} {x2 : Int32} {x3 : Int32} {Q : Int32 → Mx → Prop} (hIt : Ij a 13) (h : pX5_write σ x1 x2 x3 Q) : Met l yX5_write (wz yX5_write cX5_write 4 (some .int)) rX5_write (va_Pc [.ref (a 0), .int x1, .int x2, .int x3] (PE D κ (fun H => va_P D classes (wMo κ τ a σ) H))) (QWi Q (fun u H => va_P D classes (wMo κ τ a u) H) (cA a 13)) 0 0 (cA a 13) := by
  refine Met_of l (own := RX5) (by decide) rfl (Nat.le_of_ble_eq_true rfl) (fun p e s m below meth c Cc hPP ls hl => ?_)
  obtain ⟨hx, hb, hml, hown, hts, hr, hlk, hE⟩ := id Cc
  have hl : lv_has ls 4 [(0, .ref (a 0)), (1, .int x1), (2, .int x2), (3, .int x3)] := hl
  have hPt := hPP
  have hS : va_S (cA a 13) s.heap s.heap [] := va_S.rf
  unfold pX5_write at h
  refine lv_iload_n hx hb dX5_write_0 rfl (lv_at hl 1 rfl) ?_
  refine kR (kS Cc (mX5_isSheet l D κ h) (qX5_isSheet hts (tw_1085 hts) ⟨(Nat.le_of_ble_eq_true rfl), (Nat.le_of_ble_eq_true rfl)⟩) (rest := []) trivial rfl hl.1 rfl (Nat.le_of_ble_eq_true rfl) dX5_write_1 ⟨Nat.zero_le _, Nat.zero_le _⟩) (fun r1 h => ?_)
  refine lv_if_ne (tgt := 14) hx hb dX5_write_4 (by decide) (fun c4 => ?_) (fun c4 => ?_)
  · have h := h.1 c4
    refine lv_aload_n hx hb dX5_write_14 rfl (lv_at hl 0 rfl) ?_
    refine gMo_17 Cc hPt (tw_778 hts) dX5_write_15 ?_
    refine lv_iload_n hx hb dX5_write_18 rfl (lv_at hl 1 rfl) ?_
    refine lMo_17 Cc hPt h.1 dX5_write_19 ?_
    have h := h.2
    refine lv_if_ne (tgt := 30) hx hb dX5_write_20 (by decide) (fun c20 => ?_) (fun c20 => ?_)
    · have h := h.1 c20
      refine lv_iload_n hx hb dX5_write_30 rfl (lv_at hl 2 rfl) ?_
      refine lv_iconst (v := 0) hx hb dX5_write_31 (by decide) ?_
      refine lv_aload_n hx hb dX5_write_32 rfl (lv_at hl 0 rfl) ?_
      refine gMo_18 Cc hPt (tw_779 hts) dX5_write_33 ?_
      refine lv_iload_n hx hb dX5_write_36 rfl (lv_at hl 1 rfl) ?_
      refine lMo_18 Cc hPt h.1 dX5_write_37 ?_
      have h := h.2
      refine lv_iconst (v := 1) hx hb dX5_write_38 (by decide) ?_
      refine lv_isub hx hb dX5_write_39 ?_
      refine kR (kS Cc (mX5_within l D κ h) (qX5_within hts (tw_832 hts) ⟨(Nat.le_of_ble_eq_true rfl), (Nat.le_of_ble_eq_true rfl)⟩) (rest := []) trivial rfl hl.1 rfl (Nat.le_of_ble_eq_true rfl) dX5_write_40 ⟨Nat.zero_le _, Nat.zero_le _⟩) (fun r40 h => ?_)
      refine lv_if_ne (tgt := 53) hx hb dX5_write_43 (by decide) (fun c43 => ?_) (fun c43 => ?_)
      · have h := h.1 c43
        refine lv_aload_n hx hb dX5_write_53 rfl (lv_at hl 0 rfl) ?_
        refine gMo_19 Cc hPt (tw_780 hts) dX5_write_54 ?_
        refine lv_bipush (v := 40) hx hb dX5_write_57 (by decide) ?_
        refine lv_iload_n hx hb dX5_write_59 rfl (lv_at hl 1 rfl) ?_
        refine lv_imul hx hb dX5_write_60 ?_
        refine lv_iload_n hx hb dX5_write_61 rfl (lv_at hl 2 rfl) ?_
        refine lv_iadd hx hb dX5_write_62 ?_
        refine lv_iload_n hx hb dX5_write_63 rfl (lv_at hl 3 rfl) ?_
        refine lv_aload_n hx hb dX5_write_64 rfl (lv_at hl 0 rfl) ?_
        refine gMo_17 Cc hPt (tw_778 hts) dX5_write_65 ?_
        refine lv_iload_n hx hb dX5_write_68 rfl (lv_at hl 1 rfl) ?_
        refine lMo_17 Cc hPt h.1 dX5_write_69 ?_
        have h := h.2
        refine kR (kS Cc (mX5_cutTo l D κ h) (qX5_cutTo hts (tw_1203 hts) ⟨(Nat.le_of_ble_eq_true rfl), (Nat.le_of_ble_eq_true rfl)⟩) (rest := [.int ((40 * x1) + x2), .ref (a 11)]) trivial rfl hl.1 rfl (Nat.le_of_ble_eq_true rfl) dX5_write_70 ⟨Nat.zero_le _, Nat.zero_le _⟩) (fun r70 h => ?_)
        refine sMo_19 Cc hPt hIt hS ⟨11, by decide, rfl⟩ h.1 dX5_write_73 (fun H1 locs1 hB hS1 hk => ?_)
        have h := h.2
        have hPt := hB
        have hS := hS1
        refine lv_iconst (v := 1) hx hb dX5_write_74 (by decide) ?_
        exact W.iret (v := 1) hx hb hr (fun t ht _ => QWi.mk (u := (st σ 19 ((40 * x1) + x2).toNatClampNeg r70)) h hPt hS ht) hS.2.2 dX5_write_75 (hlocks := hlk)
      · have h := h.2 c43
        refine lv_aload_n hx hb dX5_write_46 rfl (lv_at hl 0 rfl) ?_
        refine lv_ldc (own := RX5) (v := (-1000001)) hx hb hown (tw_842 hts) dX5_write_47 ?_
        refine kWi (kV Cc (mX5_finding l D κ τ a hIt h) (qX5_finding hts (tw_843 hts) ⟨(Nat.le_of_ble_eq_true rfl), (Nat.le_of_ble_eq_true rfl)⟩) (va_recv hE.1 hPt (ci := 5) (q0 := 0) rfl rfl) (rest := []) hPt rfl hl.1 rfl (Nat.le_of_ble_eq_true rfl) dX5_write_49 ⟨Nat.zero_le _, Nat.zero_le _⟩) hS (fun q h9 => h9) (fun r49 u49 H1 locs1 h hB hk hS1 => ?_)
        have hPt := hB
        have hS := hS1
        exact W.iret (v := r49) hx hb hr (fun t ht _ => QWi.mk (u := u49) h hPt hS ht) hS.2.2 dX5_write_52 (hlocks := hlk)
    · have h := h.2 c20
      refine lv_aload_n hx hb dX5_write_23 rfl (lv_at hl 0 rfl) ?_
      refine lv_ldc (own := RX5) (v := (-1000006)) hx hb hown (tw_1088 hts) dX5_write_24 ?_
      refine kWi (kV Cc (mX5_finding l D κ τ a hIt h) (qX5_finding hts (tw_843 hts) ⟨(Nat.le_of_ble_eq_true rfl), (Nat.le_of_ble_eq_true rfl)⟩) (va_recv hE.1 hPt (ci := 5) (q0 := 0) rfl rfl) (rest := []) hPt rfl hl.1 rfl (Nat.le_of_ble_eq_true rfl) dX5_write_26 ⟨Nat.zero_le _, Nat.zero_le _⟩) hS (fun q h9 => h9) (fun r26 u26 H1 locs1 h hB hk hS1 => ?_)
      have hPt := hB
      have hS := hS1
      exact W.iret (v := r26) hx hb hr (fun t ht _ => QWi.mk (u := u26) h hPt hS ht) hS.2.2 dX5_write_29 (hlocks := hlk)
  · have h := h.2 c4
    refine lv_aload_n hx hb dX5_write_7 rfl (lv_at hl 0 rfl) ?_
    refine lv_ldc (own := RX5) (v := (-1000001)) hx hb hown (tw_842 hts) dX5_write_8 ?_
    refine kWi (kV Cc (mX5_finding l D κ τ a hIt h) (qX5_finding hts (tw_843 hts) ⟨(Nat.le_of_ble_eq_true rfl), (Nat.le_of_ble_eq_true rfl)⟩) (va_recv hE.1 hPt (ci := 5) (q0 := 0) rfl rfl) (rest := []) hPt rfl hl.1 rfl (Nat.le_of_ble_eq_true rfl) dX5_write_10 ⟨Nat.zero_le _, Nat.zero_le _⟩) hS (fun q h9 => h9) (fun r10 u10 H1 locs1 h hB hk hS1 => ?_)
    have hPt := hB
    have hS := hS1
    exact W.iret (v := r10) hx hb hr (fun t ht _ => QWi.mk (u := u10) h hPt hS ht) hS.2.2 dX5_write_13 (hlocks := hlk)
theorem qX5_write {R : Room} {s : State} {args : Array Value} {own : String} {idx : Nat} (hts : ∀ w ∈ gG, w.before args s = true) (hl : (Cond.methodLink own idx yX5_write).before args s = true) (hR : rX5_write.frames + 1 ≤ R.frames ∧ 8 + (4 + 11) + rX5_write.locals ≤ R.locals) : CallW R s args own RX5 idx yX5_write cX5_write 4 (some .int) (wz yX5_write cX5_write 4 (some .int)) rX5_write 0 0 3 := ⟨kw 3 hts mw_1202 rfl rfl (tw_75 hts) hl (by decide +kernel) hR, tw_1200 hts, tw_1201 hts⟩
abbrev rX5_copy : Room := { frames := 2, cells := 0, slots := 0, locals := 42 }
def pX5_copy_14 (Q : Int32 → Mx → Prop) (σ : Mx) : Prop := pX5_finding σ (-1000001) (fun r17 u17 => (Q r17 u17))
def pX5_copy_39 (Q : Int32 → Mx → Prop) (σ : Mx) : Prop := pX5_finding σ (-1000006) (fun r42 u42 => (Q r42 u42))
def pX5_copy_118 (Q : Int32 → Mx → Prop) (σ : Mx) : Prop := pX5_finding σ (-1000001) (fun r121 u121 => (Q r121 u121))
def pX5_copy_165s  (ih165 : Int32 → Int32 → Int32 → Int32 → Mx → Prop) (Q : Int32 → Mx → Prop) (x3 : Int32) (x4 : Int32) (x5 : Int32) (x6 : Int32) (σ : Mx) : Prop := (x5 ≤ x6 → (Q x5 σ)) ∧ (¬ x5 ≤ x6 → (vp_in x6 40 ∧ (vp_in (((40 * x3) + x4) + x6) 160 ∧ (ih165 x3 x4 x5 (x6 + 1) (st σ 19 (((40 * x3) + x4) + x6).toNatClampNeg (σ 20 x6.toNatClampNeg))))))
noncomputable def pX5_copy_165 (Q : Int32 → Mx → Prop) (n : Nat) : Int32 → Int32 → Int32 → Int32 → Mx → Prop := Nat.rec (motive := fun _ => Int32 → Int32 → Int32 → Int32 → Mx → Prop) (fun _ _ _ _ _ => False) (fun _ ih => pX5_copy_165s ih Q) n
def pX5_copy_128s  (ih128 : Int32 → Int32 → Int32 → Int32 → Int32 → Int32 → Mx → Prop) (Q : Int32 → Mx → Prop) (x1 : Int32) (x2 : Int32) (x3 : Int32) (x4 : Int32) (x5 : Int32) (x6 : Int32) (σ : Mx) : Prop := (x5 ≤ x6 → (∃ n, pX5_copy_165 Q n x3 x4 x5 0 σ)) ∧ (¬ x5 ≤ x6 → (vp_in (((40 * x1) + x2) + x6) 160 ∧ (vp_in x6 40 ∧ (ih128 x1 x2 x3 x4 x5 (x6 + 1) (st σ 20 x6.toNatClampNeg (σ 19 (((40 * x1) + x2) + x6).toNatClampNeg))))))
noncomputable def pX5_copy_128 (Q : Int32 → Mx → Prop) (n : Nat) : Int32 → Int32 → Int32 → Int32 → Int32 → Int32 → Mx → Prop := Nat.rec (motive := fun _ => Int32 → Int32 → Int32 → Int32 → Int32 → Int32 → Mx → Prop) (fun _ _ _ _ _ _ _ => False) (fun _ ih => pX5_copy_128s ih Q) n
def pX5_copy (σ : Mx) (x1 : Int32) (x2 : Int32) (x3 : Int32) (x4 : Int32) (x5 : Int32) (Q : Int32 → Mx → Prop) : Prop := pX5_isSheet x1 (fun r1 => ((r1 = 0 → (pX5_copy_14 Q σ)) ∧ (¬ r1 = 0 → (pX5_isSheet x3 (fun r8 => ((¬ r8 = 0 → (vp_in x1 4 ∧ (((σ 17 x1.toNatClampNeg) = 0 → (pX5_copy_39 Q σ)) ∧ (¬ (σ 17 x1.toNatClampNeg) = 0 → (vp_in x3 4 ∧ ((¬ (σ 17 x3.toNatClampNeg) = 0 → (vp_in x1 4 ∧ (vp_in x3 4 ∧ (((σ 17 x1.toNatClampNeg) = (σ 17 x3.toNatClampNeg) → ((x2 < 0 → (pX5_copy_118 Q σ)) ∧ (¬ x2 < 0 → ((x4 < 0 → (pX5_copy_118 Q σ)) ∧ (¬ x4 < 0 → ((x5 < 0 → (pX5_copy_118 Q σ)) ∧ (¬ x5 < 0 → (vp_in x1 4 ∧ ((0 < (lg_cmp (x2.toInt64 + x5.toInt64) ((σ 18 x1.toNatClampNeg).toInt64)) → (pX5_copy_118 Q σ)) ∧ (¬ 0 < (lg_cmp (x2.toInt64 + x5.toInt64) ((σ 18 x1.toNatClampNeg).toInt64)) → (vp_in x3 4 ∧ (((lg_cmp (x4.toInt64 + x5.toInt64) ((σ 18 x3.toNatClampNeg).toInt64)) ≤ 0 → (∃ n, pX5_copy_128 Q n x1 x2 x3 x4 x5 0 σ)) ∧ (¬ (lg_cmp (x4.toInt64 + x5.toInt64) ((σ 18 x3.toNatClampNeg).toInt64)) ≤ 0 → (pX5_copy_118 Q σ)))))))))))))) ∧ (¬ (σ 17 x1.toNatClampNeg) = (σ 17 x3.toNatClampNeg) → (pX5_finding σ (-1000003) (fun r65 u65 => (Q r65 u65)))))))) ∧ ((σ 17 x3.toNatClampNeg) = 0 → (pX5_copy_39 Q σ)))))))) ∧ (r8 = 0 → (pX5_copy_14 Q σ))))))))
set_option maxHeartbeats 4000000 in
set_option maxRecDepth 100000 in
theorem bX5_copy_14 {p : Program} {l : Launch} {e : Env} {s : State} {m : MethodId} {args : Array Value} {below : List Frame} {meth : Method} {c : Code} {D : va_G} {κ : Nat → ClassId} {τ : Nat → Nat} {a : Nat → Nat}   {Q : Int32 → Mx → Prop} (Cc : Cx D κ RX5 cX5_copy 7 (some .int) p s m args meth c) (hIt : Ij a 13)   : ∀ (σ : Mx) (H : Heap) (locs : List Loc) (hPt : va_P D classes (wMo κ τ a σ) H) (hS : va_S (cA a 13) s.heap H locs) (ls : Array Slot) (hl : lv_has ls 7 [(0, .ref (a 0))]) (h : pX5_copy_14 Q σ), W p l e rX5_copy s m args below meth c H locs 0 0 (MQ below (QWi Q (fun u H => va_P D classes (wMo κ τ a u) H) (cA a 13)) args s 0 0 (cA a 13)) (F0 m 14 ls []) := by
  obtain ⟨hx, hb, hml, hown, hts, hr, hlk, hE⟩ := id Cc
  intro σ H locs hPt hS ls hl h
  unfold pX5_copy_14 at h
  refine lv_aload_n hx hb dX5_copy_14 rfl (lv_at hl 0 rfl) ?_
  refine lv_ldc (own := RX5) (v := (-1000001)) hx hb hown (tw_842 hts) dX5_copy_15 ?_
  refine kWi (kV Cc (mX5_finding l D κ τ a hIt h) (qX5_finding hts (tw_843 hts) ⟨(Nat.le_of_ble_eq_true rfl), (Nat.le_of_ble_eq_true rfl)⟩) (va_recv hE.1 hPt (ci := 5) (q0 := 0) rfl rfl) (rest := []) hPt rfl hl.1 rfl (Nat.le_of_ble_eq_true rfl) dX5_copy_17 ⟨Nat.zero_le _, Nat.zero_le _⟩) hS (fun q h9 => h9) (fun r17 u17 H1 locs1 h hB hk hS1 => ?_)
  have hPt := hB
  have hS := hS1
  exact W.iret (v := r17) hx hb hr (fun t ht _ => QWi.mk (u := u17) h hPt hS ht) hS.2.2 dX5_copy_20 (hlocks := hlk)
set_option maxHeartbeats 4000000 in
set_option maxRecDepth 100000 in
theorem bX5_copy_39 {p : Program} {l : Launch} {e : Env} {s : State} {m : MethodId} {args : Array Value} {below : List Frame} {meth : Method} {c : Code} {D : va_G} {κ : Nat → ClassId} {τ : Nat → Nat} {a : Nat → Nat}   {Q : Int32 → Mx → Prop} (Cc : Cx D κ RX5 cX5_copy 7 (some .int) p s m args meth c) (hIt : Ij a 13)   : ∀ (σ : Mx) (H : Heap) (locs : List Loc) (hPt : va_P D classes (wMo κ τ a σ) H) (hS : va_S (cA a 13) s.heap H locs) (ls : Array Slot) (hl : lv_has ls 7 [(0, .ref (a 0))]) (h : pX5_copy_39 Q σ), W p l e rX5_copy s m args below meth c H locs 0 0 (MQ below (QWi Q (fun u H => va_P D classes (wMo κ τ a u) H) (cA a 13)) args s 0 0 (cA a 13)) (F0 m 39 ls []) := by
  obtain ⟨hx, hb, hml, hown, hts, hr, hlk, hE⟩ := id Cc
  intro σ H locs hPt hS ls hl h
  unfold pX5_copy_39 at h
  refine lv_aload_n hx hb dX5_copy_39 rfl (lv_at hl 0 rfl) ?_
  refine lv_ldc (own := RX5) (v := (-1000006)) hx hb hown (tw_1088 hts) dX5_copy_40 ?_
  refine kWi (kV Cc (mX5_finding l D κ τ a hIt h) (qX5_finding hts (tw_843 hts) ⟨(Nat.le_of_ble_eq_true rfl), (Nat.le_of_ble_eq_true rfl)⟩) (va_recv hE.1 hPt (ci := 5) (q0 := 0) rfl rfl) (rest := []) hPt rfl hl.1 rfl (Nat.le_of_ble_eq_true rfl) dX5_copy_42 ⟨Nat.zero_le _, Nat.zero_le _⟩) hS (fun q h9 => h9) (fun r42 u42 H1 locs1 h hB hk hS1 => ?_)
  have hPt := hB
  have hS := hS1
  exact W.iret (v := r42) hx hb hr (fun t ht _ => QWi.mk (u := u42) h hPt hS ht) hS.2.2 dX5_copy_45 (hlocks := hlk)
set_option maxHeartbeats 4000000 in
set_option maxRecDepth 100000 in
theorem bX5_copy_118 {p : Program} {l : Launch} {e : Env} {s : State} {m : MethodId} {args : Array Value} {below : List Frame} {meth : Method} {c : Code} {D : va_G} {κ : Nat → ClassId} {τ : Nat → Nat} {a : Nat → Nat}   {Q : Int32 → Mx → Prop} (Cc : Cx D κ RX5 cX5_copy 7 (some .int) p s m args meth c) (hIt : Ij a 13)   : ∀ (σ : Mx) (H : Heap) (locs : List Loc) (hPt : va_P D classes (wMo κ τ a σ) H) (hS : va_S (cA a 13) s.heap H locs) (ls : Array Slot) (hl : lv_has ls 7 [(0, .ref (a 0))]) (h : pX5_copy_118 Q σ), W p l e rX5_copy s m args below meth c H locs 0 0 (MQ below (QWi Q (fun u H => va_P D classes (wMo κ τ a u) H) (cA a 13)) args s 0 0 (cA a 13)) (F0 m 118 ls []) := by
  obtain ⟨hx, hb, hml, hown, hts, hr, hlk, hE⟩ := id Cc
  intro σ H locs hPt hS ls hl h
  unfold pX5_copy_118 at h
  refine lv_aload_n hx hb dX5_copy_118 rfl (lv_at hl 0 rfl) ?_
  refine lv_ldc (own := RX5) (v := (-1000001)) hx hb hown (tw_842 hts) dX5_copy_119 ?_
  refine kWi (kV Cc (mX5_finding l D κ τ a hIt h) (qX5_finding hts (tw_843 hts) ⟨(Nat.le_of_ble_eq_true rfl), (Nat.le_of_ble_eq_true rfl)⟩) (va_recv hE.1 hPt (ci := 5) (q0 := 0) rfl rfl) (rest := []) hPt rfl hl.1 rfl (Nat.le_of_ble_eq_true rfl) dX5_copy_121 ⟨Nat.zero_le _, Nat.zero_le _⟩) hS (fun q h9 => h9) (fun r121 u121 H1 locs1 h hB hk hS1 => ?_)
  have hPt := hB
  have hS := hS1
  exact W.iret (v := r121) hx hb hr (fun t ht _ => QWi.mk (u := u121) h hPt hS ht) hS.2.2 dX5_copy_124 (hlocks := hlk)
set_option maxHeartbeats 4000000 in
set_option maxRecDepth 100000 in
theorem bX5_copy_165 {p : Program} {l : Launch} {e : Env} {s : State} {m : MethodId} {args : Array Value} {below : List Frame} {meth : Method} {c : Code} {D : va_G} {κ : Nat → ClassId} {τ : Nat → Nat} {a : Nat → Nat}   {Q : Int32 → Mx → Prop} (Cc : Cx D κ RX5 cX5_copy 7 (some .int) p s m args meth c) (hIt : Ij a 13)   (n : Nat) : ∀ (x3 : Int32) (x4 : Int32) (x5 : Int32) (x6 : Int32) (σ : Mx) (H : Heap) (locs : List Loc) (hPt : va_P D classes (wMo κ τ a σ) H) (hS : va_S (cA a 13) s.heap H locs) (ls : Array Slot) (hl : lv_has ls 7 [(0, .ref (a 0)), (3, .int x3), (4, .int x4), (5, .int x5), (6, .int x6)]) (h : pX5_copy_165 Q n x3 x4 x5 x6 σ), W p l e rX5_copy s m args below meth c H locs 0 0 (MQ below (QWi Q (fun u H => va_P D classes (wMo κ τ a u) H) (cA a 13)) args s 0 0 (cA a 13)) (F0 m 165 ls []) := by
  obtain ⟨hx, hb, hml, hown, hts, hr, hlk, hE⟩ := id Cc
  induction n with
  | zero =>
    intro x3 x4 x5 x6 σ H locs hPt hS ls hl h
    exact absurd h (fun z => z)
  | succ n hih165 =>
    intro x3 x4 x5 x6 σ H locs hPt hS ls hl h
    have h : pX5_copy_165s (pX5_copy_165 Q n) Q x3 x4 x5 x6 σ := h
    unfold pX5_copy_165s at h
    refine lv_iload hx hb dX5_copy_165 (lv_at hl 4 rfl) ?_
    refine lv_iload hx hb dX5_copy_167 (lv_at hl 3 rfl) ?_
    refine lv_icmp_ge (tgt := 200) hx hb dX5_copy_169 (by decide) (fun c169 => ?_) (fun c169 => ?_)
    · have h := h.1 c169
      refine lv_iload hx hb dX5_copy_200 (lv_at hl 3 rfl) ?_
      exact W.iret (v := x5) hx hb hr (fun t ht _ => QWi.mk (u := σ) h hPt hS ht) hS.2.2 dX5_copy_202 (hlocks := hlk)
    · have h := h.2 c169
      refine lv_aload_n hx hb dX5_copy_172 rfl (lv_at hl 0 rfl) ?_
      refine gMo_19 Cc hPt (tw_780 hts) dX5_copy_173 ?_
      refine lv_bipush (v := 40) hx hb dX5_copy_176 (by decide) ?_
      refine lv_iload_n hx hb dX5_copy_178 rfl (lv_at hl 1 rfl) ?_
      refine lv_imul hx hb dX5_copy_179 ?_
      refine lv_iload hx hb dX5_copy_180 (lv_at hl 2 rfl) ?_
      refine lv_iadd hx hb dX5_copy_182 ?_
      refine lv_iload hx hb dX5_copy_183 (lv_at hl 4 rfl) ?_
      refine lv_iadd hx hb dX5_copy_185 ?_
      refine lv_aload_n hx hb dX5_copy_186 rfl (lv_at hl 0 rfl) ?_
      refine gMo_20 Cc hPt (tw_781 hts) dX5_copy_187 ?_
      refine lv_iload hx hb dX5_copy_190 (lv_at hl 4 rfl) ?_
      refine lMo_20 Cc hPt h.1 dX5_copy_192 ?_
      have h := h.2
      refine sMo_19 Cc hPt hIt hS ⟨11, by decide, rfl⟩ h.1 dX5_copy_193 (fun H1 locs1 hB hS1 hk => ?_)
      have h := h.2
      have hPt := hB
      have hS := hS1
      refine lv_iinc (v := (x6 + 1)) (lv' := [(6, .int (x6 + 1)), (0, .ref (a 0)), (3, .int x3), (4, .int x4), (5, .int x5)]) hx hb dX5_copy_194 hl (k := 4) rfl rfl (by decide) rfl (fun ls hl => ?_)
      refine lv_goto (tgt := 165) hx hb dX5_copy_197 (by decide) ?_
      exact hih165 x3 x4 x5 (x6 + 1) (st σ 19 (((40 * x3) + x4) + x6).toNatClampNeg (σ 20 x6.toNatClampNeg)) _ _ hPt hS _ (lv_sub hl [1, 2, 3, 4, 0] rfl) h
set_option maxHeartbeats 4000000 in
set_option maxRecDepth 100000 in
theorem bX5_copy_128 {p : Program} {l : Launch} {e : Env} {s : State} {m : MethodId} {args : Array Value} {below : List Frame} {meth : Method} {c : Code} {D : va_G} {κ : Nat → ClassId} {τ : Nat → Nat} {a : Nat → Nat}   {Q : Int32 → Mx → Prop} (Cc : Cx D κ RX5 cX5_copy 7 (some .int) p s m args meth c) (hIt : Ij a 13)   (n : Nat) : ∀ (x1 : Int32) (x2 : Int32) (x3 : Int32) (x4 : Int32) (x5 : Int32) (x6 : Int32) (σ : Mx) (H : Heap) (locs : List Loc) (hPt : va_P D classes (wMo κ τ a σ) H) (hS : va_S (cA a 13) s.heap H locs) (ls : Array Slot) (hl : lv_has ls 7 [(0, .ref (a 0)), (1, .int x1), (2, .int x2), (3, .int x3), (4, .int x4), (5, .int x5), (6, .int x6)]) (h : pX5_copy_128 Q n x1 x2 x3 x4 x5 x6 σ), W p l e rX5_copy s m args below meth c H locs 0 0 (MQ below (QWi Q (fun u H => va_P D classes (wMo κ τ a u) H) (cA a 13)) args s 0 0 (cA a 13)) (F0 m 128 ls []) := by
  obtain ⟨hx, hb, hml, hown, hts, hr, hlk, hE⟩ := id Cc
  induction n with
  | zero =>
    intro x1 x2 x3 x4 x5 x6 σ H locs hPt hS ls hl h
    exact absurd h (fun z => z)
  | succ n hih128 =>
    intro x1 x2 x3 x4 x5 x6 σ H locs hPt hS ls hl h
    have h : pX5_copy_128s (pX5_copy_128 Q n) Q x1 x2 x3 x4 x5 x6 σ := h
    unfold pX5_copy_128s at h
    refine lv_iload hx hb dX5_copy_128 (lv_at hl 6 rfl) ?_
    refine lv_iload hx hb dX5_copy_130 (lv_at hl 5 rfl) ?_
    refine lv_icmp_ge (tgt := 162) hx hb dX5_copy_132 (by decide) (fun c132 => ?_) (fun c132 => ?_)
    · have h := h.1 c132
      refine lv_iconst (v := 0) hx hb dX5_copy_162 (by decide) ?_
      refine lv_istore (lv' := [(6, .int 0), (0, .ref (a 0)), (1, .int x1), (2, .int x2), (3, .int x3), (4, .int x4), (5, .int x5)]) hx hb dX5_copy_163 hl (by decide) rfl (fun ls hl => ?_)
      obtain ⟨n, h⟩ := h
      exact bX5_copy_165 Cc hIt n x3 x4 x5 0 σ _ _ hPt hS _ (lv_sub hl [1, 4, 5, 6, 0] rfl) h
    · have h := h.2 c132
      refine lv_aload_n hx hb dX5_copy_135 rfl (lv_at hl 0 rfl) ?_
      refine gMo_20 Cc hPt (tw_781 hts) dX5_copy_136 ?_
      refine lv_iload hx hb dX5_copy_139 (lv_at hl 6 rfl) ?_
      refine lv_aload_n hx hb dX5_copy_141 rfl (lv_at hl 0 rfl) ?_
      refine gMo_19 Cc hPt (tw_780 hts) dX5_copy_142 ?_
      refine lv_bipush (v := 40) hx hb dX5_copy_145 (by decide) ?_
      refine lv_iload_n hx hb dX5_copy_147 rfl (lv_at hl 1 rfl) ?_
      refine lv_imul hx hb dX5_copy_148 ?_
      refine lv_iload_n hx hb dX5_copy_149 rfl (lv_at hl 2 rfl) ?_
      refine lv_iadd hx hb dX5_copy_150 ?_
      refine lv_iload hx hb dX5_copy_151 (lv_at hl 6 rfl) ?_
      refine lv_iadd hx hb dX5_copy_153 ?_
      refine lMo_19 Cc hPt h.1 dX5_copy_154 ?_
      have h := h.2
      refine sMo_20 Cc hPt hIt hS ⟨12, by decide, rfl⟩ h.1 dX5_copy_155 (fun H1 locs1 hB hS1 hk => ?_)
      have h := h.2
      have hPt := hB
      have hS := hS1
      refine lv_iinc (v := (x6 + 1)) (lv' := [(6, .int (x6 + 1)), (0, .ref (a 0)), (1, .int x1), (2, .int x2), (3, .int x3), (4, .int x4), (5, .int x5)]) hx hb dX5_copy_156 hl (k := 6) rfl rfl (by decide) rfl (fun ls hl => ?_)
      refine lv_goto (tgt := 128) hx hb dX5_copy_159 (by decide) ?_
      exact hih128 x1 x2 x3 x4 x5 (x6 + 1) (st σ 20 x6.toNatClampNeg (σ 19 (((40 * x1) + x2) + x6).toNatClampNeg)) _ _ hPt hS _ (lv_sub hl [1, 2, 3, 4, 5, 6, 0] rfl) h
set_option maxHeartbeats 4000000 in
set_option maxRecDepth 100000 in
theorem mX5_copy (l : Launch) (D : va_G) (κ : Nat → ClassId) (τ : Nat → Nat) (a : Nat → Nat) {σ : Mx} {x1 : Int32} {x2 : Int32} {x3 : Int32} {x4 : Int32} {x5 : Int32} {Q : Int32 → Mx → Prop} (hIt : Ij a 13) (h : pX5_copy σ x1 x2 x3 x4 x5 Q) : Met l yX5_copy (wz yX5_copy cX5_copy 7 (some .int)) rX5_copy (va_Pc [.ref (a 0), .int x1, .int x2, .int x3, .int x4, .int x5] (PE D κ (fun H => va_P D classes (wMo κ τ a σ) H))) (QWi Q (fun u H => va_P D classes (wMo κ τ a u) H) (cA a 13)) 0 0 (cA a 13) := by
  refine Met_of l (own := RX5) (by decide) rfl (Nat.le_of_ble_eq_true rfl) (fun p e s m below meth c Cc hPP ls hl => ?_)
  obtain ⟨hx, hb, hml, hown, hts, hr, hlk, hE⟩ := id Cc
  have hl : lv_has ls 7 [(0, .ref (a 0)), (1, .int x1), (2, .int x2), (3, .int x3), (4, .int x4), (5, .int x5)] := hl
  have hPt := hPP
  have hS : va_S (cA a 13) s.heap s.heap [] := va_S.rf
  unfold pX5_copy at h
  refine lv_iload_n hx hb dX5_copy_0 rfl (lv_at hl 1 rfl) ?_
  refine kR (kS Cc (mX5_isSheet l D κ h) (qX5_isSheet hts (tw_1085 hts) ⟨(Nat.le_of_ble_eq_true rfl), (Nat.le_of_ble_eq_true rfl)⟩) (rest := []) trivial rfl hl.1 rfl (Nat.le_of_ble_eq_true rfl) dX5_copy_1 ⟨Nat.zero_le _, Nat.zero_le _⟩) (fun r1 h => ?_)
  refine lv_if_eq (tgt := 14) hx hb dX5_copy_4 (by decide) (fun c4 => ?_) (fun c4 => ?_)
  · have h := h.1 c4
    exact bX5_copy_14 Cc hIt σ _ _ hPt hS _ (lv_sub hl [0] rfl) h
  · have h := h.2 c4
    refine lv_iload_n hx hb dX5_copy_7 rfl (lv_at hl 3 rfl) ?_
    refine kR (kS Cc (mX5_isSheet l D κ h) (qX5_isSheet hts (tw_1085 hts) ⟨(Nat.le_of_ble_eq_true rfl), (Nat.le_of_ble_eq_true rfl)⟩) (rest := []) trivial rfl hl.1 rfl (Nat.le_of_ble_eq_true rfl) dX5_copy_8 ⟨Nat.zero_le _, Nat.zero_le _⟩) (fun r8 h => ?_)
    refine lv_if_ne (tgt := 21) hx hb dX5_copy_11 (by decide) (fun c11 => ?_) (fun c11 => ?_)
    · have h := h.1 c11
      refine lv_aload_n hx hb dX5_copy_21 rfl (lv_at hl 0 rfl) ?_
      refine gMo_17 Cc hPt (tw_778 hts) dX5_copy_22 ?_
      refine lv_iload_n hx hb dX5_copy_25 rfl (lv_at hl 1 rfl) ?_
      refine lMo_17 Cc hPt h.1 dX5_copy_26 ?_
      have h := h.2
      refine lv_if_eq (tgt := 39) hx hb dX5_copy_27 (by decide) (fun c27 => ?_) (fun c27 => ?_)
      · have h := h.1 c27
        exact bX5_copy_39 Cc hIt σ _ _ hPt hS _ (lv_sub hl [0] rfl) h
      · have h := h.2 c27
        refine lv_aload_n hx hb dX5_copy_30 rfl (lv_at hl 0 rfl) ?_
        refine gMo_17 Cc hPt (tw_778 hts) dX5_copy_31 ?_
        refine lv_iload_n hx hb dX5_copy_34 rfl (lv_at hl 3 rfl) ?_
        refine lMo_17 Cc hPt h.1 dX5_copy_35 ?_
        have h := h.2
        refine lv_if_ne (tgt := 46) hx hb dX5_copy_36 (by decide) (fun c36 => ?_) (fun c36 => ?_)
        · have h := h.1 c36
          refine lv_aload_n hx hb dX5_copy_46 rfl (lv_at hl 0 rfl) ?_
          refine gMo_17 Cc hPt (tw_778 hts) dX5_copy_47 ?_
          refine lv_iload_n hx hb dX5_copy_50 rfl (lv_at hl 1 rfl) ?_
          refine lMo_17 Cc hPt h.1 dX5_copy_51 ?_
          have h := h.2
          refine lv_aload_n hx hb dX5_copy_52 rfl (lv_at hl 0 rfl) ?_
          refine gMo_17 Cc hPt (tw_778 hts) dX5_copy_53 ?_
          refine lv_iload_n hx hb dX5_copy_56 rfl (lv_at hl 3 rfl) ?_
          refine lMo_17 Cc hPt h.1 dX5_copy_57 ?_
          have h := h.2
          refine lv_icmp_eq (tgt := 69) hx hb dX5_copy_58 (by decide) (fun c58 => ?_) (fun c58 => ?_)
          · have h := h.1 c58
            refine lv_iload_n hx hb dX5_copy_69 rfl (lv_at hl 2 rfl) ?_
            refine lv_if_lt (tgt := 118) hx hb dX5_copy_70 (by decide) (fun c70 => ?_) (fun c70 => ?_)
            · have h := h.1 c70
              exact bX5_copy_118 Cc hIt σ _ _ hPt hS _ (lv_sub hl [0] rfl) h
            · have h := h.2 c70
              refine lv_iload hx hb dX5_copy_73 (lv_at hl 4 rfl) ?_
              refine lv_if_lt (tgt := 118) hx hb dX5_copy_75 (by decide) (fun c75 => ?_) (fun c75 => ?_)
              · have h := h.1 c75
                exact bX5_copy_118 Cc hIt σ _ _ hPt hS _ (lv_sub hl [0] rfl) h
              · have h := h.2 c75
                refine lv_iload hx hb dX5_copy_78 (lv_at hl 5 rfl) ?_
                refine lv_if_lt (tgt := 118) hx hb dX5_copy_80 (by decide) (fun c80 => ?_) (fun c80 => ?_)
                · have h := h.1 c80
                  exact bX5_copy_118 Cc hIt σ _ _ hPt hS _ (lv_sub hl [0] rfl) h
                · have h := h.2 c80
                  refine lv_iload_n hx hb dX5_copy_83 rfl (lv_at hl 2 rfl) ?_
                  refine lv_i2l (v := x2.toInt64) hx hb dX5_copy_84 rfl ?_
                  refine lv_iload hx hb dX5_copy_85 (lv_at hl 5 rfl) ?_
                  refine lv_i2l (v := x5.toInt64) hx hb dX5_copy_87 rfl ?_
                  refine lv_ladd hx hb dX5_copy_88 ?_
                  refine lv_aload_n hx hb dX5_copy_89 rfl (lv_at hl 0 rfl) ?_
                  refine gMo_18 Cc hPt (tw_779 hts) dX5_copy_90 ?_
                  refine lv_iload_n hx hb dX5_copy_93 rfl (lv_at hl 1 rfl) ?_
                  refine lMo_18 Cc hPt h.1 dX5_copy_94 ?_
                  have h := h.2
                  refine lv_i2l (v := (σ 18 x1.toNatClampNeg).toInt64) hx hb dX5_copy_95 rfl ?_
                  refine W.lcmp hx hb dX5_copy_96 ?_
                  refine lv_if_gt (tgt := 118) hx hb dX5_copy_97 (by decide) (fun c97 => ?_) (fun c97 => ?_)
                  · have h := h.1 c97
                    exact bX5_copy_118 Cc hIt σ _ _ hPt hS _ (lv_sub hl [0] rfl) h
                  · have h := h.2 c97
                    refine lv_iload hx hb dX5_copy_100 (lv_at hl 4 rfl) ?_
                    refine lv_i2l (v := x4.toInt64) hx hb dX5_copy_102 rfl ?_
                    refine lv_iload hx hb dX5_copy_103 (lv_at hl 5 rfl) ?_
                    refine lv_i2l (v := x5.toInt64) hx hb dX5_copy_105 rfl ?_
                    refine lv_ladd hx hb dX5_copy_106 ?_
                    refine lv_aload_n hx hb dX5_copy_107 rfl (lv_at hl 0 rfl) ?_
                    refine gMo_18 Cc hPt (tw_779 hts) dX5_copy_108 ?_
                    refine lv_iload_n hx hb dX5_copy_111 rfl (lv_at hl 3 rfl) ?_
                    refine lMo_18 Cc hPt h.1 dX5_copy_112 ?_
                    have h := h.2
                    refine lv_i2l (v := (σ 18 x3.toNatClampNeg).toInt64) hx hb dX5_copy_113 rfl ?_
                    refine W.lcmp hx hb dX5_copy_114 ?_
                    refine lv_if_le (tgt := 125) hx hb dX5_copy_115 (by decide) (fun c115 => ?_) (fun c115 => ?_)
                    · have h := h.1 c115
                      refine lv_iconst (v := 0) hx hb dX5_copy_125 (by decide) ?_
                      refine lv_istore (lv' := [(6, .int 0), (0, .ref (a 0)), (1, .int x1), (2, .int x2), (3, .int x3), (4, .int x4), (5, .int x5)]) hx hb dX5_copy_126 hl (by decide) rfl (fun ls hl => ?_)
                      obtain ⟨n, h⟩ := h
                      exact bX5_copy_128 Cc hIt n x1 x2 x3 x4 x5 0 σ _ _ hPt hS _ (lv_sub hl [1, 2, 3, 4, 5, 6, 0] rfl) h
                    · have h := h.2 c115
                      exact bX5_copy_118 Cc hIt σ _ _ hPt hS _ (lv_sub hl [0] rfl) h
          · have h := h.2 c58
            refine lv_aload_n hx hb dX5_copy_61 rfl (lv_at hl 0 rfl) ?_
            refine lv_ldcw (own := RX5) (v := (-1000003)) hx hb hown (tw_1193 hts) dX5_copy_62 ?_
            refine kWi (kV Cc (mX5_finding l D κ τ a hIt h) (qX5_finding hts (tw_843 hts) ⟨(Nat.le_of_ble_eq_true rfl), (Nat.le_of_ble_eq_true rfl)⟩) (va_recv hE.1 hPt (ci := 5) (q0 := 0) rfl rfl) (rest := []) hPt rfl hl.1 rfl (Nat.le_of_ble_eq_true rfl) dX5_copy_65 ⟨Nat.zero_le _, Nat.zero_le _⟩) hS (fun q h9 => h9) (fun r65 u65 H1 locs1 h hB hk hS1 => ?_)
            have hPt := hB
            have hS := hS1
            exact W.iret (v := r65) hx hb hr (fun t ht _ => QWi.mk (u := u65) h hPt hS ht) hS.2.2 dX5_copy_68 (hlocks := hlk)
        · have h := h.2 c36
          exact bX5_copy_39 Cc hIt σ _ _ hPt hS _ (lv_sub hl [0] rfl) h
    · have h := h.2 c11
      exact bX5_copy_14 Cc hIt σ _ _ hPt hS _ (lv_sub hl [0] rfl) h
theorem qX5_copy {R : Room} {s : State} {args : Array Value} {own : String} {idx : Nat} (hts : ∀ w ∈ gG, w.before args s = true) (hl : (Cond.methodLink own idx yX5_copy).before args s = true) (hR : rX5_copy.frames + 1 ≤ R.frames ∧ 8 + (7 + 11) + rX5_copy.locals ≤ R.locals) : CallW R s args own RX5 idx yX5_copy cX5_copy 7 (some .int) (wz yX5_copy cX5_copy 7 (some .int)) rX5_copy 0 0 5 := ⟨kw 5 hts mw_1209 rfl rfl (tw_75 hts) hl (by decide +kernel) hR, tw_1207 hts, tw_1208 hts⟩
abbrev rX5_load : Room := { frames := 3, cells := 0, slots := 0, locals := 64 }
def pX5_load_84 (Q : Int32 → Mx → Prop) (x2 : Int32) (σ : Mx) : Prop := Q x2 σ
def pX5_load_22s  (ih22 : Int32 → Int32 → Mx → Prop) (Q : Int32 → Mx → Prop) (x1 : Int32) (x2 : Int32) (σ : Mx) : Prop := vp_in x1 4 ∧ (((σ 18 x1.toNatClampNeg) ≤ x2 → (pX5_load_84 Q x2 σ)) ∧ (¬ (σ 18 x1.toNatClampNeg) ≤ x2 → (pX5_isPiece σ x2 (fun r34 => ((r34 = 0 → (pX5_load_84 Q x2 σ)) ∧ (¬ r34 = 0 → (vp_in ((40 * x1) + x2) 160 ∧ (pX5_isEdge (σ 19 ((40 * x1) + x2).toNatClampNeg) (fun r51 => ((r51 = 0 → (pX5_load_84 Q x2 σ)) ∧ (¬ r51 = 0 → (pX5_pieceAt x2 1 (fun r63 => (vp_in ((40 * x1) + x2) 160 ∧ (vp_in r63 67 ∧ (ih22 x1 (x2 + 1) (st σ 0 r63.toNatClampNeg (σ 19 ((40 * x1) + x2).toNatClampNeg))))))))))))))))))
noncomputable def pX5_load_22 (Q : Int32 → Mx → Prop) (n : Nat) : Int32 → Int32 → Mx → Prop := Nat.rec (motive := fun _ => Int32 → Int32 → Mx → Prop) (fun _ _ _ => False) (fun _ ih => pX5_load_22s ih Q) n
def pX5_load (σ : Mx) (x1 : Int32) (Q : Int32 → Mx → Prop) : Prop := pX5_lacks σ x1 1 (fun r3 => ((r3 = 0 → (∃ n, pX5_load_22 Q n x1 0 σ)) ∧ (¬ r3 = 0 → (pX5_lacks σ x1 1 (fun r13 => (pX5_finding σ r13 (fun r16 u16 => (Q r16 u16))))))))
set_option maxHeartbeats 4000000 in
set_option maxRecDepth 100000 in
theorem bX5_load_84 {p : Program} {l : Launch} {e : Env} {s : State} {m : MethodId} {args : Array Value} {below : List Frame} {meth : Method} {c : Code} {D : va_G} {κ : Nat → ClassId} {τ : Nat → Nat} {a : Nat → Nat}   {Q : Int32 → Mx → Prop} (Cc : Cx D κ RX5 cX5_load 3 (some .int) p s m args meth c) (hIt : Ij a 13)   : ∀ (x2 : Int32) (σ : Mx) (H : Heap) (locs : List Loc) (hPt : va_P D classes (wMo κ τ a σ) H) (hS : va_S (cA a 13) s.heap H locs) (ls : Array Slot) (hl : lv_has ls 3 [(2, .int x2)]) (h : pX5_load_84 Q x2 σ), W p l e rX5_load s m args below meth c H locs 0 0 (MQ below (QWi Q (fun u H => va_P D classes (wMo κ τ a u) H) (cA a 13)) args s 0 0 (cA a 13)) (F0 m 84 ls []) := by
  obtain ⟨hx, hb, hml, hown, hts, hr, hlk, hE⟩ := id Cc
  intro x2 σ H locs hPt hS ls hl h
  unfold pX5_load_84 at h
  refine lv_iload_n hx hb dX5_load_84 rfl (lv_at hl 0 rfl) ?_
  exact W.iret (v := x2) hx hb hr (fun t ht _ => QWi.mk (u := σ) h hPt hS ht) hS.2.2 dX5_load_85 (hlocks := hlk)
set_option maxHeartbeats 4000000 in
set_option maxRecDepth 100000 in
theorem bX5_load_22 {p : Program} {l : Launch} {e : Env} {s : State} {m : MethodId} {args : Array Value} {below : List Frame} {meth : Method} {c : Code} {D : va_G} {κ : Nat → ClassId} {τ : Nat → Nat} {a : Nat → Nat}   {Q : Int32 → Mx → Prop} (Cc : Cx D κ RX5 cX5_load 3 (some .int) p s m args meth c) (hIt : Ij a 13)   (n : Nat) : ∀ (x1 : Int32) (x2 : Int32) (σ : Mx) (H : Heap) (locs : List Loc) (hPt : va_P D classes (wMo κ τ a σ) H) (hS : va_S (cA a 13) s.heap H locs) (ls : Array Slot) (hl : lv_has ls 3 [(0, .ref (a 0)), (1, .int x1), (2, .int x2)]) (h : pX5_load_22 Q n x1 x2 σ), W p l e rX5_load s m args below meth c H locs 0 0 (MQ below (QWi Q (fun u H => va_P D classes (wMo κ τ a u) H) (cA a 13)) args s 0 0 (cA a 13)) (F0 m 22 ls []) := by
  obtain ⟨hx, hb, hml, hown, hts, hr, hlk, hE⟩ := id Cc
  induction n with
  | zero =>
    intro x1 x2 σ H locs hPt hS ls hl h
    exact absurd h (fun z => z)
  | succ n hih22 =>
    intro x1 x2 σ H locs hPt hS ls hl h
    have h : pX5_load_22s (pX5_load_22 Q n) Q x1 x2 σ := h
    unfold pX5_load_22s at h
    refine lv_iload_n hx hb dX5_load_22 rfl (lv_at hl 2 rfl) ?_
    refine lv_aload_n hx hb dX5_load_23 rfl (lv_at hl 0 rfl) ?_
    refine gMo_18 Cc hPt (tw_779 hts) dX5_load_24 ?_
    refine lv_iload_n hx hb dX5_load_27 rfl (lv_at hl 1 rfl) ?_
    refine lMo_18 Cc hPt h.1 dX5_load_28 ?_
    have h := h.2
    refine lv_icmp_ge (tgt := 84) hx hb dX5_load_29 (by decide) (fun c29 => ?_) (fun c29 => ?_)
    · have h := h.1 c29
      exact bX5_load_84 Cc hIt x2 σ _ _ hPt hS _ (lv_sub hl [2] rfl) h
    · have h := h.2 c29
      refine lv_aload_n hx hb dX5_load_32 rfl (lv_at hl 0 rfl) ?_
      refine lv_iload_n hx hb dX5_load_33 rfl (lv_at hl 2 rfl) ?_
      refine kR (kV Cc (mX5_isPiece l D κ τ a h) (qX5_isPiece hts (tw_873 hts) ⟨(Nat.le_of_ble_eq_true rfl), (Nat.le_of_ble_eq_true rfl)⟩) (va_recv hE.1 hPt (ci := 5) (q0 := 0) rfl rfl) (rest := []) hPt rfl hl.1 rfl (Nat.le_of_ble_eq_true rfl) dX5_load_34 ⟨Nat.zero_le _, Nat.zero_le _⟩) (fun r34 h => ?_)
      refine lv_if_eq (tgt := 84) hx hb dX5_load_37 (by decide) (fun c37 => ?_) (fun c37 => ?_)
      · have h := h.1 c37
        exact bX5_load_84 Cc hIt x2 σ _ _ hPt hS _ (lv_sub hl [2] rfl) h
      · have h := h.2 c37
        refine lv_aload_n hx hb dX5_load_40 rfl (lv_at hl 0 rfl) ?_
        refine gMo_19 Cc hPt (tw_780 hts) dX5_load_41 ?_
        refine lv_bipush (v := 40) hx hb dX5_load_44 (by decide) ?_
        refine lv_iload_n hx hb dX5_load_46 rfl (lv_at hl 1 rfl) ?_
        refine lv_imul hx hb dX5_load_47 ?_
        refine lv_iload_n hx hb dX5_load_48 rfl (lv_at hl 2 rfl) ?_
        refine lv_iadd hx hb dX5_load_49 ?_
        refine lMo_19 Cc hPt h.1 dX5_load_50 ?_
        have h := h.2
        refine kR (kS Cc (mX5_isEdge l D κ h) (qX5_isEdge hts (tw_858 hts) ⟨(Nat.le_of_ble_eq_true rfl), (Nat.le_of_ble_eq_true rfl)⟩) (rest := []) trivial rfl hl.1 rfl (Nat.le_of_ble_eq_true rfl) dX5_load_51 ⟨Nat.zero_le _, Nat.zero_le _⟩) (fun r51 h => ?_)
        refine lv_if_eq (tgt := 84) hx hb dX5_load_54 (by decide) (fun c54 => ?_) (fun c54 => ?_)
        · have h := h.1 c54
          exact bX5_load_84 Cc hIt x2 σ _ _ hPt hS _ (lv_sub hl [2] rfl) h
        · have h := h.2 c54
          refine lv_aload_n hx hb dX5_load_57 rfl (lv_at hl 0 rfl) ?_
          refine gMo_0 Cc hPt (tw_761 hts) dX5_load_58 ?_
          refine lv_iload_n hx hb dX5_load_61 rfl (lv_at hl 2 rfl) ?_
          refine lv_iconst (v := 1) hx hb dX5_load_62 (by decide) ?_
          refine kR (kS Cc (mX5_pieceAt l D κ h) (qX5_pieceAt hts (tw_866 hts) ⟨(Nat.le_of_ble_eq_true rfl), (Nat.le_of_ble_eq_true rfl)⟩) (rest := [.ref (a 1)]) trivial rfl hl.1 rfl (Nat.le_of_ble_eq_true rfl) dX5_load_63 ⟨Nat.zero_le _, Nat.zero_le _⟩) (fun r63 h => ?_)
          refine lv_aload_n hx hb dX5_load_66 rfl (lv_at hl 0 rfl) ?_
          refine gMo_19 Cc hPt (tw_780 hts) dX5_load_67 ?_
          refine lv_bipush (v := 40) hx hb dX5_load_70 (by decide) ?_
          refine lv_iload_n hx hb dX5_load_72 rfl (lv_at hl 1 rfl) ?_
          refine lv_imul hx hb dX5_load_73 ?_
          refine lv_iload_n hx hb dX5_load_74 rfl (lv_at hl 2 rfl) ?_
          refine lv_iadd hx hb dX5_load_75 ?_
          refine lMo_19 Cc hPt h.1 dX5_load_76 ?_
          have h := h.2
          refine sMo_0 Cc hPt hIt hS ⟨1, by decide, rfl⟩ h.1 dX5_load_77 (fun H1 locs1 hB hS1 hk => ?_)
          have h := h.2
          have hPt := hB
          have hS := hS1
          refine lv_iinc (v := (x2 + 1)) (lv' := [(2, .int (x2 + 1)), (0, .ref (a 0)), (1, .int x1)]) hx hb dX5_load_78 hl (k := 2) rfl rfl (by decide) rfl (fun ls hl => ?_)
          refine lv_goto (tgt := 22) hx hb dX5_load_81 (by decide) ?_
          exact hih22 x1 (x2 + 1) (st σ 0 r63.toNatClampNeg (σ 19 ((40 * x1) + x2).toNatClampNeg)) _ _ hPt hS _ (lv_sub hl [1, 2, 0] rfl) h
set_option maxHeartbeats 4000000 in
set_option maxRecDepth 100000 in
theorem mX5_load (l : Launch) (D : va_G) (κ : Nat → ClassId) (τ : Nat → Nat) (a : Nat → Nat) {σ : Mx} {x1 : Int32} {Q : Int32 → Mx → Prop} (hIt : Ij a 13) (h : pX5_load σ x1 Q) : Met l yX5_load (wz yX5_load cX5_load 3 (some .int)) rX5_load (va_Pc [.ref (a 0), .int x1] (PE D κ (fun H => va_P D classes (wMo κ τ a σ) H))) (QWi Q (fun u H => va_P D classes (wMo κ τ a u) H) (cA a 13)) 0 0 (cA a 13) := by
  refine Met_of l (own := RX5) (by decide) rfl (Nat.le_of_ble_eq_true rfl) (fun p e s m below meth c Cc hPP ls hl => ?_)
  obtain ⟨hx, hb, hml, hown, hts, hr, hlk, hE⟩ := id Cc
  have hl : lv_has ls 3 [(0, .ref (a 0)), (1, .int x1)] := hl
  have hPt := hPP
  have hS : va_S (cA a 13) s.heap s.heap [] := va_S.rf
  unfold pX5_load at h
  refine lv_aload_n hx hb dX5_load_0 rfl (lv_at hl 0 rfl) ?_
  refine lv_iload_n hx hb dX5_load_1 rfl (lv_at hl 1 rfl) ?_
  refine lv_iconst (v := 1) hx hb dX5_load_2 (by decide) ?_
  refine kR (kV Cc (mX5_lacks l D κ τ a h) (qX5_lacks hts (tw_1081 hts) ⟨(Nat.le_of_ble_eq_true rfl), (Nat.le_of_ble_eq_true rfl)⟩) (va_recv hE.1 hPt (ci := 5) (q0 := 0) rfl rfl) (rest := []) hPt rfl hl.1 rfl (Nat.le_of_ble_eq_true rfl) dX5_load_3 ⟨Nat.zero_le _, Nat.zero_le _⟩) (fun r3 h => ?_)
  refine lv_if_eq (tgt := 20) hx hb dX5_load_6 (by decide) (fun c6 => ?_) (fun c6 => ?_)
  · have h := h.1 c6
    refine lv_iconst (v := 0) hx hb dX5_load_20 (by decide) ?_
    refine lv_istore_n (lv' := [(2, .int 0), (0, .ref (a 0)), (1, .int x1)]) hx hb dX5_load_21 rfl hl (by decide) rfl (fun ls hl => ?_)
    obtain ⟨n, h⟩ := h
    exact bX5_load_22 Cc hIt n x1 0 σ _ _ hPt hS _ (lv_sub hl [1, 2, 0] rfl) h
  · have h := h.2 c6
    refine lv_aload_n hx hb dX5_load_9 rfl (lv_at hl 0 rfl) ?_
    refine lv_aload_n hx hb dX5_load_10 rfl (lv_at hl 0 rfl) ?_
    refine lv_iload_n hx hb dX5_load_11 rfl (lv_at hl 1 rfl) ?_
    refine lv_iconst (v := 1) hx hb dX5_load_12 (by decide) ?_
    refine kR (kV Cc (mX5_lacks l D κ τ a h) (qX5_lacks hts (tw_1081 hts) ⟨(Nat.le_of_ble_eq_true rfl), (Nat.le_of_ble_eq_true rfl)⟩) (va_recv hE.1 hPt (ci := 5) (q0 := 0) rfl rfl) (rest := [.ref (a 0)]) hPt rfl hl.1 rfl (Nat.le_of_ble_eq_true rfl) dX5_load_13 ⟨Nat.zero_le _, Nat.zero_le _⟩) (fun r13 h => ?_)
    refine kWi (kV Cc (mX5_finding l D κ τ a hIt h) (qX5_finding hts (tw_843 hts) ⟨(Nat.le_of_ble_eq_true rfl), (Nat.le_of_ble_eq_true rfl)⟩) (va_recv hE.1 hPt (ci := 5) (q0 := 0) rfl rfl) (rest := []) hPt rfl hl.1 rfl (Nat.le_of_ble_eq_true rfl) dX5_load_16 ⟨Nat.zero_le _, Nat.zero_le _⟩) hS (fun q h9 => h9) (fun r16 u16 H1 locs1 h hB hk hS1 => ?_)
    have hPt := hB
    have hS := hS1
    exact W.iret (v := r16) hx hb hr (fun t ht _ => QWi.mk (u := u16) h hPt hS ht) hS.2.2 dX5_load_19 (hlocks := hlk)
theorem qX5_load {R : Room} {s : State} {args : Array Value} {own : String} {idx : Nat} (hts : ∀ w ∈ gG, w.before args s = true) (hl : (Cond.methodLink own idx yX5_load).before args s = true) (hR : rX5_load.frames + 1 ≤ R.frames ∧ 8 + (3 + 11) + rX5_load.locals ≤ R.locals) : CallW R s args own RX5 idx yX5_load cX5_load 3 (some .int) (wz yX5_load cX5_load 3 (some .int)) rX5_load 0 0 1 := ⟨kw 1 hts mw_1213 rfl rfl (tw_75 hts) hl (by decide +kernel) hR, tw_1211 hts, tw_1212 hts⟩
abbrev rX5_judge : Room := { frames := 3, cells := 0, slots := 0, locals := 64 }
def pX5_judge_86 (Q : Int32 → Mx → Prop) (y0 : Int32) (σ : Mx) : Prop := Q y0 σ
def pX5_judge_69 (Q : Int32 → Mx → Prop) (x1 : Int32) (x2 : Int32) (σ : Mx) : Prop := vp_in x1 4 ∧ ((¬ x2 = (σ 18 x1.toNatClampNeg) → (pX5_judge_86 Q (1 + x2) σ)) ∧ (x2 = (σ 18 x1.toNatClampNeg) → (pX5_judge_86 Q 0 σ)))
def pX5_judge_22s  (ih22 : Int32 → Int32 → Mx → Prop) (Q : Int32 → Mx → Prop) (x1 : Int32) (x2 : Int32) (σ : Mx) : Prop := vp_in x1 4 ∧ (((σ 18 x1.toNatClampNeg) ≤ x2 → (pX5_judge_69 Q x1 x2 σ)) ∧ (¬ (σ 18 x1.toNatClampNeg) ≤ x2 → (pX5_isPiece σ x2 (fun r34 => ((r34 = 0 → (pX5_judge_69 Q x1 x2 σ)) ∧ (¬ r34 = 0 → (vp_in ((40 * x1) + x2) 160 ∧ (vp_in (59 + x2) 67 ∧ ((¬ (σ 19 ((40 * x1) + x2).toNatClampNeg) = (σ 0 (59 + x2).toNatClampNeg) → (pX5_judge_69 Q x1 x2 σ)) ∧ ((σ 19 ((40 * x1) + x2).toNatClampNeg) = (σ 0 (59 + x2).toNatClampNeg) → (ih22 x1 (x2 + 1) σ)))))))))))
noncomputable def pX5_judge_22 (Q : Int32 → Mx → Prop) (n : Nat) : Int32 → Int32 → Mx → Prop := Nat.rec (motive := fun _ => Int32 → Int32 → Mx → Prop) (fun _ _ _ => False) (fun _ ih => pX5_judge_22s ih Q) n
def pX5_judge (σ : Mx) (x1 : Int32) (Q : Int32 → Mx → Prop) : Prop := pX5_lacks σ x1 1 (fun r3 => ((r3 = 0 → (∃ n, pX5_judge_22 Q n x1 0 σ)) ∧ (¬ r3 = 0 → (pX5_lacks σ x1 1 (fun r13 => (pX5_finding σ r13 (fun r16 u16 => (Q r16 u16))))))))
set_option maxHeartbeats 4000000 in
set_option maxRecDepth 100000 in
theorem bX5_judge_86 {p : Program} {l : Launch} {e : Env} {s : State} {m : MethodId} {args : Array Value} {below : List Frame} {meth : Method} {c : Code} {D : va_G} {κ : Nat → ClassId} {τ : Nat → Nat} {a : Nat → Nat}   {Q : Int32 → Mx → Prop} (Cc : Cx D κ RX5 cX5_judge 3 (some .int) p s m args meth c) (hIt : Ij a 13)   : ∀ (y0 : Int32) (σ : Mx) (H : Heap) (locs : List Loc) (hPt : va_P D classes (wMo κ τ a σ) H) (hS : va_S (cA a 13) s.heap H locs) (ls : Array Slot) (hl : lv_has ls 3 []) (h : pX5_judge_86 Q y0 σ), W p l e rX5_judge s m args below meth c H locs 0 0 (MQ below (QWi Q (fun u H => va_P D classes (wMo κ τ a u) H) (cA a 13)) args s 0 0 (cA a 13)) (F0 m 86 ls [.int y0]) := by
  obtain ⟨hx, hb, hml, hown, hts, hr, hlk, hE⟩ := id Cc
  intro y0 σ H locs hPt hS ls hl h
  unfold pX5_judge_86 at h
  exact W.iret (v := y0) hx hb hr (fun t ht _ => QWi.mk (u := σ) h hPt hS ht) hS.2.2 dX5_judge_86 (hlocks := hlk)
set_option maxHeartbeats 4000000 in
set_option maxRecDepth 100000 in
theorem bX5_judge_69 {p : Program} {l : Launch} {e : Env} {s : State} {m : MethodId} {args : Array Value} {below : List Frame} {meth : Method} {c : Code} {D : va_G} {κ : Nat → ClassId} {τ : Nat → Nat} {a : Nat → Nat}   {Q : Int32 → Mx → Prop} (Cc : Cx D κ RX5 cX5_judge 3 (some .int) p s m args meth c) (hIt : Ij a 13)   : ∀ (x1 : Int32) (x2 : Int32) (σ : Mx) (H : Heap) (locs : List Loc) (hPt : va_P D classes (wMo κ τ a σ) H) (hS : va_S (cA a 13) s.heap H locs) (ls : Array Slot) (hl : lv_has ls 3 [(0, .ref (a 0)), (1, .int x1), (2, .int x2)]) (h : pX5_judge_69 Q x1 x2 σ), W p l e rX5_judge s m args below meth c H locs 0 0 (MQ below (QWi Q (fun u H => va_P D classes (wMo κ τ a u) H) (cA a 13)) args s 0 0 (cA a 13)) (F0 m 69 ls []) := by
  obtain ⟨hx, hb, hml, hown, hts, hr, hlk, hE⟩ := id Cc
  intro x1 x2 σ H locs hPt hS ls hl h
  unfold pX5_judge_69 at h
  refine lv_iload_n hx hb dX5_judge_69 rfl (lv_at hl 2 rfl) ?_
  refine lv_aload_n hx hb dX5_judge_70 rfl (lv_at hl 0 rfl) ?_
  refine gMo_18 Cc hPt (tw_779 hts) dX5_judge_71 ?_
  refine lv_iload_n hx hb dX5_judge_74 rfl (lv_at hl 1 rfl) ?_
  refine lMo_18 Cc hPt h.1 dX5_judge_75 ?_
  have h := h.2
  refine lv_icmp_ne (tgt := 83) hx hb dX5_judge_76 (by decide) (fun c76 => ?_) (fun c76 => ?_)
  · have h := h.1 c76
    refine lv_iconst (v := 1) hx hb dX5_judge_83 (by decide) ?_
    refine lv_iload_n hx hb dX5_judge_84 rfl (lv_at hl 2 rfl) ?_
    refine lv_iadd hx hb dX5_judge_85 ?_
    exact bX5_judge_86 Cc hIt (1 + x2) σ _ _ hPt hS _ (lv_sub hl [] rfl) h
  · have h := h.2 c76
    refine lv_iconst (v := 0) hx hb dX5_judge_79 (by decide) ?_
    refine lv_goto (tgt := 86) hx hb dX5_judge_80 (by decide) ?_
    exact bX5_judge_86 Cc hIt 0 σ _ _ hPt hS _ (lv_sub hl [] rfl) h
set_option maxHeartbeats 4000000 in
set_option maxRecDepth 100000 in
theorem bX5_judge_22 {p : Program} {l : Launch} {e : Env} {s : State} {m : MethodId} {args : Array Value} {below : List Frame} {meth : Method} {c : Code} {D : va_G} {κ : Nat → ClassId} {τ : Nat → Nat} {a : Nat → Nat}   {Q : Int32 → Mx → Prop} (Cc : Cx D κ RX5 cX5_judge 3 (some .int) p s m args meth c) (hIt : Ij a 13)   (n : Nat) : ∀ (x1 : Int32) (x2 : Int32) (σ : Mx) (H : Heap) (locs : List Loc) (hPt : va_P D classes (wMo κ τ a σ) H) (hS : va_S (cA a 13) s.heap H locs) (ls : Array Slot) (hl : lv_has ls 3 [(0, .ref (a 0)), (1, .int x1), (2, .int x2)]) (h : pX5_judge_22 Q n x1 x2 σ), W p l e rX5_judge s m args below meth c H locs 0 0 (MQ below (QWi Q (fun u H => va_P D classes (wMo κ τ a u) H) (cA a 13)) args s 0 0 (cA a 13)) (F0 m 22 ls []) := by
  obtain ⟨hx, hb, hml, hown, hts, hr, hlk, hE⟩ := id Cc
  induction n with
  | zero =>
    intro x1 x2 σ H locs hPt hS ls hl h
    exact absurd h (fun z => z)
  | succ n hih22 =>
    intro x1 x2 σ H locs hPt hS ls hl h
    have h : pX5_judge_22s (pX5_judge_22 Q n) Q x1 x2 σ := h
    unfold pX5_judge_22s at h
    refine lv_iload_n hx hb dX5_judge_22 rfl (lv_at hl 2 rfl) ?_
    refine lv_aload_n hx hb dX5_judge_23 rfl (lv_at hl 0 rfl) ?_
    refine gMo_18 Cc hPt (tw_779 hts) dX5_judge_24 ?_
    refine lv_iload_n hx hb dX5_judge_27 rfl (lv_at hl 1 rfl) ?_
    refine lMo_18 Cc hPt h.1 dX5_judge_28 ?_
    have h := h.2
    refine lv_icmp_ge (tgt := 69) hx hb dX5_judge_29 (by decide) (fun c29 => ?_) (fun c29 => ?_)
    · have h := h.1 c29
      exact bX5_judge_69 Cc hIt x1 x2 σ _ _ hPt hS _ (lv_sub hl [0, 1, 2] rfl) h
    · have h := h.2 c29
      refine lv_aload_n hx hb dX5_judge_32 rfl (lv_at hl 0 rfl) ?_
      refine lv_iload_n hx hb dX5_judge_33 rfl (lv_at hl 2 rfl) ?_
      refine kR (kV Cc (mX5_isPiece l D κ τ a h) (qX5_isPiece hts (tw_873 hts) ⟨(Nat.le_of_ble_eq_true rfl), (Nat.le_of_ble_eq_true rfl)⟩) (va_recv hE.1 hPt (ci := 5) (q0 := 0) rfl rfl) (rest := []) hPt rfl hl.1 rfl (Nat.le_of_ble_eq_true rfl) dX5_judge_34 ⟨Nat.zero_le _, Nat.zero_le _⟩) (fun r34 h => ?_)
      refine lv_if_eq (tgt := 69) hx hb dX5_judge_37 (by decide) (fun c37 => ?_) (fun c37 => ?_)
      · have h := h.1 c37
        exact bX5_judge_69 Cc hIt x1 x2 σ _ _ hPt hS _ (lv_sub hl [0, 1, 2] rfl) h
      · have h := h.2 c37
        refine lv_aload_n hx hb dX5_judge_40 rfl (lv_at hl 0 rfl) ?_
        refine gMo_19 Cc hPt (tw_780 hts) dX5_judge_41 ?_
        refine lv_bipush (v := 40) hx hb dX5_judge_44 (by decide) ?_
        refine lv_iload_n hx hb dX5_judge_46 rfl (lv_at hl 1 rfl) ?_
        refine lv_imul hx hb dX5_judge_47 ?_
        refine lv_iload_n hx hb dX5_judge_48 rfl (lv_at hl 2 rfl) ?_
        refine lv_iadd hx hb dX5_judge_49 ?_
        refine lMo_19 Cc hPt h.1 dX5_judge_50 ?_
        have h := h.2
        refine lv_aload_n hx hb dX5_judge_51 rfl (lv_at hl 0 rfl) ?_
        refine gMo_0 Cc hPt (tw_761 hts) dX5_judge_52 ?_
        refine lv_bipush (v := 59) hx hb dX5_judge_55 (by decide) ?_
        refine lv_iload_n hx hb dX5_judge_57 rfl (lv_at hl 2 rfl) ?_
        refine lv_iadd hx hb dX5_judge_58 ?_
        refine lMo_0 Cc hPt h.1 dX5_judge_59 ?_
        have h := h.2
        refine lv_icmp_ne (tgt := 69) hx hb dX5_judge_60 (by decide) (fun c60 => ?_) (fun c60 => ?_)
        · have h := h.1 c60
          exact bX5_judge_69 Cc hIt x1 x2 σ _ _ hPt hS _ (lv_sub hl [0, 1, 2] rfl) h
        · have h := h.2 c60
          refine lv_iinc (v := (x2 + 1)) (lv' := [(2, .int (x2 + 1)), (0, .ref (a 0)), (1, .int x1)]) hx hb dX5_judge_63 hl (k := 2) rfl rfl (by decide) rfl (fun ls hl => ?_)
          refine lv_goto (tgt := 22) hx hb dX5_judge_66 (by decide) ?_
          exact hih22 x1 (x2 + 1) σ _ _ hPt hS _ (lv_sub hl [1, 2, 0] rfl) h
set_option maxHeartbeats 4000000 in
set_option maxRecDepth 100000 in
theorem mX5_judge (l : Launch) (D : va_G) (κ : Nat → ClassId) (τ : Nat → Nat) (a : Nat → Nat) {σ : Mx} {x1 : Int32} {Q : Int32 → Mx → Prop} (hIt : Ij a 13) (h : pX5_judge σ x1 Q) : Met l yX5_judge (wz yX5_judge cX5_judge 3 (some .int)) rX5_judge (va_Pc [.ref (a 0), .int x1] (PE D κ (fun H => va_P D classes (wMo κ τ a σ) H))) (QWi Q (fun u H => va_P D classes (wMo κ τ a u) H) (cA a 13)) 0 0 (cA a 13) := by
  refine Met_of l (own := RX5) (by decide) rfl (Nat.le_of_ble_eq_true rfl) (fun p e s m below meth c Cc hPP ls hl => ?_)
  obtain ⟨hx, hb, hml, hown, hts, hr, hlk, hE⟩ := id Cc
  have hl : lv_has ls 3 [(0, .ref (a 0)), (1, .int x1)] := hl
  have hPt := hPP
  have hS : va_S (cA a 13) s.heap s.heap [] := va_S.rf
  unfold pX5_judge at h
  refine lv_aload_n hx hb dX5_judge_0 rfl (lv_at hl 0 rfl) ?_
  refine lv_iload_n hx hb dX5_judge_1 rfl (lv_at hl 1 rfl) ?_
  refine lv_iconst (v := 1) hx hb dX5_judge_2 (by decide) ?_
  refine kR (kV Cc (mX5_lacks l D κ τ a h) (qX5_lacks hts (tw_1081 hts) ⟨(Nat.le_of_ble_eq_true rfl), (Nat.le_of_ble_eq_true rfl)⟩) (va_recv hE.1 hPt (ci := 5) (q0 := 0) rfl rfl) (rest := []) hPt rfl hl.1 rfl (Nat.le_of_ble_eq_true rfl) dX5_judge_3 ⟨Nat.zero_le _, Nat.zero_le _⟩) (fun r3 h => ?_)
  refine lv_if_eq (tgt := 20) hx hb dX5_judge_6 (by decide) (fun c6 => ?_) (fun c6 => ?_)
  · have h := h.1 c6
    refine lv_iconst (v := 0) hx hb dX5_judge_20 (by decide) ?_
    refine lv_istore_n (lv' := [(2, .int 0), (0, .ref (a 0)), (1, .int x1)]) hx hb dX5_judge_21 rfl hl (by decide) rfl (fun ls hl => ?_)
    obtain ⟨n, h⟩ := h
    exact bX5_judge_22 Cc hIt n x1 0 σ _ _ hPt hS _ (lv_sub hl [1, 2, 0] rfl) h
  · have h := h.2 c6
    refine lv_aload_n hx hb dX5_judge_9 rfl (lv_at hl 0 rfl) ?_
    refine lv_aload_n hx hb dX5_judge_10 rfl (lv_at hl 0 rfl) ?_
    refine lv_iload_n hx hb dX5_judge_11 rfl (lv_at hl 1 rfl) ?_
    refine lv_iconst (v := 1) hx hb dX5_judge_12 (by decide) ?_
    refine kR (kV Cc (mX5_lacks l D κ τ a h) (qX5_lacks hts (tw_1081 hts) ⟨(Nat.le_of_ble_eq_true rfl), (Nat.le_of_ble_eq_true rfl)⟩) (va_recv hE.1 hPt (ci := 5) (q0 := 0) rfl rfl) (rest := [.ref (a 0)]) hPt rfl hl.1 rfl (Nat.le_of_ble_eq_true rfl) dX5_judge_13 ⟨Nat.zero_le _, Nat.zero_le _⟩) (fun r13 h => ?_)
    refine kWi (kV Cc (mX5_finding l D κ τ a hIt h) (qX5_finding hts (tw_843 hts) ⟨(Nat.le_of_ble_eq_true rfl), (Nat.le_of_ble_eq_true rfl)⟩) (va_recv hE.1 hPt (ci := 5) (q0 := 0) rfl rfl) (rest := []) hPt rfl hl.1 rfl (Nat.le_of_ble_eq_true rfl) dX5_judge_16 ⟨Nat.zero_le _, Nat.zero_le _⟩) hS (fun q h9 => h9) (fun r16 u16 H1 locs1 h hB hk hS1 => ?_)
    have hPt := hB
    have hS := hS1
    exact W.iret (v := r16) hx hb hr (fun t ht _ => QWi.mk (u := u16) h hPt hS ht) hS.2.2 dX5_judge_19 (hlocks := hlk)
theorem qX5_judge {R : Room} {s : State} {args : Array Value} {own : String} {idx : Nat} (hts : ∀ w ∈ gG, w.before args s = true) (hl : (Cond.methodLink own idx yX5_judge).before args s = true) (hR : rX5_judge.frames + 1 ≤ R.frames ∧ 8 + (3 + 11) + rX5_judge.locals ≤ R.locals) : CallW R s args own RX5 idx yX5_judge cX5_judge 3 (some .int) (wz yX5_judge cX5_judge 3 (some .int)) rX5_judge 0 0 1 := ⟨kw 1 hts mw_1217 rfl rfl (tw_75 hts) hl (by decide +kernel) hR, tw_1215 hts, tw_1216 hts⟩
abbrev rX5_image : Room := { frames := 1, cells := 0, slots := 0, locals := 22 }
def pX5_image (σ : Mx)  (Q : Int32 → Mx → Prop) : Prop := pX5_copyRow_01 σ (fun u8 => (Q 1 (st u8 3 0 1)))
set_option maxHeartbeats 4000000 in
set_option maxRecDepth 100000 in
theorem mX5_image (l : Launch) (D : va_G) (κ : Nat → ClassId) (τ : Nat → Nat) (a : Nat → Nat) {σ : Mx}  {Q : Int32 → Mx → Prop} (hIt : Ij a 13) (h : pX5_image σ  Q) : Met l yX5_image (wz yX5_image cX5_image 1 (some .int)) rX5_image (va_Pc [.ref (a 0)] (PE D κ (fun H => va_P D classes (wMo κ τ a σ) H))) (QWi Q (fun u H => va_P D classes (wMo κ τ a u) H) (cA a 13)) 0 0 (cA a 13) := by
  refine Met_of l (own := RX5) (by decide) rfl (Nat.le_of_ble_eq_true rfl) (fun p e s m below meth c Cc hPP ls hl => ?_)
  obtain ⟨hx, hb, hml, hown, hts, hr, hlk, hE⟩ := id Cc
  have hl : lv_has ls 1 [(0, .ref (a 0))] := hl
  have hPt := hPP
  have hS : va_S (cA a 13) s.heap s.heap [] := va_S.rf
  unfold pX5_image at h
  refine lv_aload_n hx hb dX5_image_0 rfl (lv_at hl 0 rfl) ?_
  refine gMo_0 Cc hPt (tw_761 hts) dX5_image_1 ?_
  refine lv_aload_n hx hb dX5_image_4 rfl (lv_at hl 0 rfl) ?_
  refine gMo_1 Cc hPt (tw_762 hts) dX5_image_5 ?_
  refine kWv (kS Cc (mX5_copyRow_01 l D κ τ a hIt h) (qX5_copyRow_01 hts (tw_1014 hts) ⟨(Nat.le_of_ble_eq_true rfl), (Nat.le_of_ble_eq_true rfl)⟩) (rest := []) hPt rfl hl.1 rfl (Nat.le_of_ble_eq_true rfl) dX5_image_8 ⟨Nat.zero_le _, Nat.zero_le _⟩) hS (fun q h9 => h9) (fun  u8 H1 locs1 h hB hk hS1 => ?_)
  have hPt := hB
  have hS := hS1
  refine lv_aload_n hx hb dX5_image_11 rfl (lv_at hl 0 rfl) ?_
  refine lv_iconst (v := 1) hx hb dX5_image_12 (by decide) ?_
  refine uMo_3 Cc hPt hIt hS ⟨0, by decide, rfl⟩ (tw_764 hts) ⟨rfl, rfl⟩ dX5_image_13 (fun H1 locs1 hB hS1 hk => ?_)
  have hPt := hB
  have hS := hS1
  refine lv_iconst (v := 1) hx hb dX5_image_16 (by decide) ?_
  exact W.iret (v := 1) hx hb hr (fun t ht _ => QWi.mk (u := (st u8 3 0 1)) h hPt hS ht) hS.2.2 dX5_image_17 (hlocks := hlk)
theorem qX5_image {R : Room} {s : State} {args : Array Value} {own : String} {idx : Nat} (hts : ∀ w ∈ gG, w.before args s = true) (hl : (Cond.methodLink own idx yX5_image).before args s = true) (hR : rX5_image.frames + 1 ≤ R.frames ∧ 8 + (1 + 11) + rX5_image.locals ≤ R.locals) : CallW R s args own RX5 idx yX5_image cX5_image 1 (some .int) (wz yX5_image cX5_image 1 (some .int)) rX5_image 0 0 0 := ⟨kw 0 hts mw_1221 rfl rfl (tw_75 hts) hl (by decide +kernel) hR, tw_1219 hts, tw_1220 hts⟩
abbrev rX5_undo : Room := { frames := 1, cells := 0, slots := 0, locals := 22 }
def pX5_undo (σ : Mx)  (Q : Int32 → Mx → Prop) : Prop := (¬ (σ 3 0) = 0 → (pX5_copyRow_10 σ (fun u22 => (vp_in 0 67 ∧ (Q (u22 0 (0 : Int32).toNatClampNeg) u22))))) ∧ ((σ 3 0) = 0 → (pX5_finding σ (-1000004) (fun r10 u10 => (Q r10 u10))))
set_option maxHeartbeats 4000000 in
set_option maxRecDepth 100000 in
theorem mX5_undo (l : Launch) (D : va_G) (κ : Nat → ClassId) (τ : Nat → Nat) (a : Nat → Nat) {σ : Mx}  {Q : Int32 → Mx → Prop} (hIt : Ij a 13) (h : pX5_undo σ  Q) : Met l yX5_undo (wz yX5_undo cX5_undo 1 (some .int)) rX5_undo (va_Pc [.ref (a 0)] (PE D κ (fun H => va_P D classes (wMo κ τ a σ) H))) (QWi Q (fun u H => va_P D classes (wMo κ τ a u) H) (cA a 13)) 0 0 (cA a 13) := by
  refine Met_of l (own := RX5) (by decide) rfl (Nat.le_of_ble_eq_true rfl) (fun p e s m below meth c Cc hPP ls hl => ?_)
  obtain ⟨hx, hb, hml, hown, hts, hr, hlk, hE⟩ := id Cc
  have hl : lv_has ls 1 [(0, .ref (a 0))] := hl
  have hPt := hPP
  have hS : va_S (cA a 13) s.heap s.heap [] := va_S.rf
  unfold pX5_undo at h
  refine lv_aload_n hx hb dX5_undo_0 rfl (lv_at hl 0 rfl) ?_
  refine gMo_3 Cc hPt (tw_764 hts) dX5_undo_1 ?_
  refine lv_if_ne (tgt := 14) hx hb dX5_undo_4 (by decide) (fun c4 => ?_) (fun c4 => ?_)
  · have h := h.1 c4
    refine lv_aload_n hx hb dX5_undo_14 rfl (lv_at hl 0 rfl) ?_
    refine gMo_1 Cc hPt (tw_762 hts) dX5_undo_15 ?_
    refine lv_aload_n hx hb dX5_undo_18 rfl (lv_at hl 0 rfl) ?_
    refine gMo_0 Cc hPt (tw_761 hts) dX5_undo_19 ?_
    refine kWv (kS Cc (mX5_copyRow_10 l D κ τ a hIt h) (qX5_copyRow_10 hts (tw_1014 hts) ⟨(Nat.le_of_ble_eq_true rfl), (Nat.le_of_ble_eq_true rfl)⟩) (rest := []) hPt rfl hl.1 rfl (Nat.le_of_ble_eq_true rfl) dX5_undo_22 ⟨Nat.zero_le _, Nat.zero_le _⟩) hS (fun q h9 => h9) (fun  u22 H1 locs1 h hB hk hS1 => ?_)
    have hPt := hB
    have hS := hS1
    refine lv_aload_n hx hb dX5_undo_25 rfl (lv_at hl 0 rfl) ?_
    refine gMo_0 Cc hPt (tw_761 hts) dX5_undo_26 ?_
    refine lv_iconst (v := 0) hx hb dX5_undo_29 (by decide) ?_
    refine lMo_0 Cc hPt h.1 dX5_undo_30 ?_
    have h := h.2
    exact W.iret (v := (u22 0 (0 : Int32).toNatClampNeg)) hx hb hr (fun t ht _ => QWi.mk (u := u22) h hPt hS ht) hS.2.2 dX5_undo_31 (hlocks := hlk)
  · have h := h.2 c4
    refine lv_aload_n hx hb dX5_undo_7 rfl (lv_at hl 0 rfl) ?_
    refine lv_ldc (own := RX5) (v := (-1000004)) hx hb hown (tw_1033 hts) dX5_undo_8 ?_
    refine kWi (kV Cc (mX5_finding l D κ τ a hIt h) (qX5_finding hts (tw_843 hts) ⟨(Nat.le_of_ble_eq_true rfl), (Nat.le_of_ble_eq_true rfl)⟩) (va_recv hE.1 hPt (ci := 5) (q0 := 0) rfl rfl) (rest := []) hPt rfl hl.1 rfl (Nat.le_of_ble_eq_true rfl) dX5_undo_10 ⟨Nat.zero_le _, Nat.zero_le _⟩) hS (fun q h9 => h9) (fun r10 u10 H1 locs1 h hB hk hS1 => ?_)
    have hPt := hB
    have hS := hS1
    exact W.iret (v := r10) hx hb hr (fun t ht _ => QWi.mk (u := u10) h hPt hS ht) hS.2.2 dX5_undo_13 (hlocks := hlk)
theorem qX5_undo {R : Room} {s : State} {args : Array Value} {own : String} {idx : Nat} (hts : ∀ w ∈ gG, w.before args s = true) (hl : (Cond.methodLink own idx yX5_undo).before args s = true) (hR : rX5_undo.frames + 1 ≤ R.frames ∧ 8 + (1 + 11) + rX5_undo.locals ≤ R.locals) : CallW R s args own RX5 idx yX5_undo cX5_undo 1 (some .int) (wz yX5_undo cX5_undo 1 (some .int)) rX5_undo 0 0 0 := ⟨kw 0 hts mw_1225 rfl rfl (tw_75 hts) hl (by decide +kernel) hR, tw_1223 hts, tw_1224 hts⟩
abbrev rX5_tear : Room := { frames := 0, cells := 0, slots := 0, locals := 0 }
def pX5_tear_12 (Q : Int32 → Mx → Prop) (y0 : Int32) (σ : Mx) : Prop := Q y0 (st σ 3 0 0)
def pX5_tear (σ : Mx)  (Q : Int32 → Mx → Prop) : Prop := ((σ 3 0) = 0 → (pX5_tear_12 Q 0 σ)) ∧ (¬ (σ 3 0) = 0 → (pX5_tear_12 Q 1 σ))
set_option maxHeartbeats 4000000 in
set_option maxRecDepth 100000 in
theorem bX5_tear_12 {p : Program} {l : Launch} {e : Env} {s : State} {m : MethodId} {args : Array Value} {below : List Frame} {meth : Method} {c : Code} {D : va_G} {κ : Nat → ClassId} {τ : Nat → Nat} {a : Nat → Nat}   {Q : Int32 → Mx → Prop} (Cc : Cx D κ RX5 cX5_tear 2 (some .int) p s m args meth c) (hIt : Ij a 13)   : ∀ (y0 : Int32) (σ : Mx) (H : Heap) (locs : List Loc) (hPt : va_P D classes (wMo κ τ a σ) H) (hS : va_S (cA a 13) s.heap H locs) (ls : Array Slot) (hl : lv_has ls 2 [(0, .ref (a 0))]) (h : pX5_tear_12 Q y0 σ), W p l e rX5_tear s m args below meth c H locs 0 0 (MQ below (QWi Q (fun u H => va_P D classes (wMo κ τ a u) H) (cA a 13)) args s 0 0 (cA a 13)) (F0 m 12 ls [.int y0]) := by
  obtain ⟨hx, hb, hml, hown, hts, hr, hlk, hE⟩ := id Cc
  intro y0 σ H locs hPt hS ls hl h
  unfold pX5_tear_12 at h
  refine lv_istore_n (lv' := [(1, .int y0), (0, .ref (a 0))]) hx hb dX5_tear_12 rfl hl (by decide) rfl (fun ls hl => ?_)
  refine lv_aload_n hx hb dX5_tear_13 rfl (lv_at hl 1 rfl) ?_
  refine lv_iconst (v := 0) hx hb dX5_tear_14 (by decide) ?_
  refine uMo_3 Cc hPt hIt hS ⟨0, by decide, rfl⟩ (tw_764 hts) ⟨rfl, rfl⟩ dX5_tear_15 (fun H1 locs1 hB hS1 hk => ?_)
  have hPt := hB
  have hS := hS1
  refine lv_iload_n hx hb dX5_tear_18 rfl (lv_at hl 0 rfl) ?_
  exact W.iret (v := y0) hx hb hr (fun t ht _ => QWi.mk (u := (st σ 3 0 0)) h hPt hS ht) hS.2.2 dX5_tear_19 (hlocks := hlk)
set_option maxHeartbeats 4000000 in
set_option maxRecDepth 100000 in
theorem mX5_tear (l : Launch) (D : va_G) (κ : Nat → ClassId) (τ : Nat → Nat) (a : Nat → Nat) {σ : Mx}  {Q : Int32 → Mx → Prop} (hIt : Ij a 13) (h : pX5_tear σ  Q) : Met l yX5_tear (wz yX5_tear cX5_tear 2 (some .int)) rX5_tear (va_Pc [.ref (a 0)] (PE D κ (fun H => va_P D classes (wMo κ τ a σ) H))) (QWi Q (fun u H => va_P D classes (wMo κ τ a u) H) (cA a 13)) 0 0 (cA a 13) := by
  refine Met_of l (own := RX5) (by decide) rfl (Nat.le_of_ble_eq_true rfl) (fun p e s m below meth c Cc hPP ls hl => ?_)
  obtain ⟨hx, hb, hml, hown, hts, hr, hlk, hE⟩ := id Cc
  have hl : lv_has ls 2 [(0, .ref (a 0))] := hl
  have hPt := hPP
  have hS : va_S (cA a 13) s.heap s.heap [] := va_S.rf
  unfold pX5_tear at h
  refine lv_aload_n hx hb dX5_tear_0 rfl (lv_at hl 0 rfl) ?_
  refine gMo_3 Cc hPt (tw_764 hts) dX5_tear_1 ?_
  refine lv_if_eq (tgt := 11) hx hb dX5_tear_4 (by decide) (fun c4 => ?_) (fun c4 => ?_)
  · have h := h.1 c4
    refine lv_iconst (v := 0) hx hb dX5_tear_11 (by decide) ?_
    exact bX5_tear_12 Cc hIt 0 σ _ _ hPt hS _ (lv_sub hl [0] rfl) h
  · have h := h.2 c4
    refine lv_iconst (v := 1) hx hb dX5_tear_7 (by decide) ?_
    refine lv_goto (tgt := 12) hx hb dX5_tear_8 (by decide) ?_
    exact bX5_tear_12 Cc hIt 1 σ _ _ hPt hS _ (lv_sub hl [0] rfl) h
theorem qX5_tear {R : Room} {s : State} {args : Array Value} {own : String} {idx : Nat} (hts : ∀ w ∈ gG, w.before args s = true) (hl : (Cond.methodLink own idx yX5_tear).before args s = true) (hR : rX5_tear.frames + 1 ≤ R.frames ∧ 8 + (2 + 11) + rX5_tear.locals ≤ R.locals) : CallW R s args own RX5 idx yX5_tear cX5_tear 2 (some .int) (wz yX5_tear cX5_tear 2 (some .int)) rX5_tear 0 0 0 := ⟨kw 0 hts mw_1229 rfl rfl (tw_75 hts) hl (by decide +kernel) hR, tw_1227 hts, tw_1228 hts⟩
abbrev rX5_count : Room := { frames := 5, cells := 0, slots := 0, locals := 113 }
def pX5_count_121 (ih97 : Int32 → Int32 → Mx → Prop) (Q : Int32 → Mx → Prop) (x3 : Int32) (y0 : Int32) (y1 : Int32) (σ : Mx) : Prop := ∀ v122 : Int32, v122 = (y1 + y0) → (ih97 v122 (x3 + 1) σ)
def pX5_count_97s  (ih97 : Int32 → Int32 → Mx → Prop) (Q : Int32 → Mx → Prop) (x2 : Int32) (x3 : Int32) (σ : Mx) : Prop := (10 ≤ x3 → (Q x2 σ)) ∧ (¬ 10 ≤ x3 → (vp_in (9 + x3) 67 ∧ ((0 ≤ (σ 0 (9 + x3).toNatClampNeg) → (pX5_count_121 ih97 Q x3 1 x2 σ)) ∧ (¬ 0 ≤ (σ 0 (9 + x3).toNatClampNeg) → (pX5_count_121 ih97 Q x3 0 x2 σ)))))
noncomputable def pX5_count_97 (Q : Int32 → Mx → Prop) (n : Nat) : Int32 → Int32 → Mx → Prop := Nat.rec (motive := fun _ => Int32 → Int32 → Mx → Prop) (fun _ _ _ => False) (fun _ ih => pX5_count_97s ih Q) n
def pX5_count (σ : Mx) (x1 : Int32) (Q : Int32 → Mx → Prop) : Prop := (x1 = 0 → (vp_in 0 67 ∧ (Q (σ 0 (0 : Int32).toNatClampNeg) σ))) ∧ (x1 = 1 → (vp_in 1 67 ∧ (Q (σ 0 (1 : Int32).toNatClampNeg) σ))) ∧ (x1 = 2 → (pX5_sumNow σ (fun r63 => (Q r63 σ)))) ∧ (x1 = 3 → (pX5_turnedOnes σ (fun r68 => (pX5_bits r68 (fun r71 => (Q r71 σ)))))) ∧ (x1 = 4 → (pX5_grantedOnes σ (fun r76 => (pX5_bits r76 (fun r79 => (Q r79 σ)))))) ∧ (x1 = 5 → (Q (σ 7 0) σ)) ∧ (x1 = 6 → (vp_in 2 67 ∧ (Q (σ 0 (2 : Int32).toNatClampNeg) σ))) ∧ (x1 = 7 → (∃ n, pX5_count_97 Q n 0 0 σ)) ∧ (¬ x1 = 0 → ¬ x1 = 1 → ¬ x1 = 2 → ¬ x1 = 3 → ¬ x1 = 4 → ¬ x1 = 5 → ¬ x1 = 6 → ¬ x1 = 7 → (pX5_finding σ (-1000001) (fun r134 u134 => (Q r134 u134))))
set_option maxHeartbeats 4000000 in
set_option maxRecDepth 100000 in
theorem bX5_count_121 {p : Program} {l : Launch} {e : Env} {s : State} {m : MethodId} {args : Array Value} {below : List Frame} {meth : Method} {c : Code} {D : va_G} {κ : Nat → ClassId} {τ : Nat → Nat} {a : Nat → Nat}  {ih97 : Int32 → Int32 → Mx → Prop} {Q : Int32 → Mx → Prop} (Cc : Cx D κ RX5 cX5_count 4 (some .int) p s m args meth c) (hIt : Ij a 13)  (hih97 : ∀ (x2 : Int32) (x3 : Int32) (σ : Mx) (H : Heap) (locs : List Loc) (hPt : va_P D classes (wMo κ τ a σ) H) (hS : va_S (cA a 13) s.heap H locs) (ls : Array Slot) (hl : lv_has ls 4 [(0, .ref (a 0)), (2, .int x2), (3, .int x3)]) (h : ih97 x2 x3 σ), W p l e rX5_count s m args below meth c H locs 0 0 (MQ below (QWi Q (fun u H => va_P D classes (wMo κ τ a u) H) (cA a 13)) args s 0 0 (cA a 13)) (F0 m 97 ls [])) : ∀ (x3 : Int32) (y0 : Int32) (y1 : Int32) (σ : Mx) (H : Heap) (locs : List Loc) (hPt : va_P D classes (wMo κ τ a σ) H) (hS : va_S (cA a 13) s.heap H locs) (ls : Array Slot) (hl : lv_has ls 4 [(0, .ref (a 0)), (3, .int x3)]) (h : pX5_count_121 ih97 Q x3 y0 y1 σ), W p l e rX5_count s m args below meth c H locs 0 0 (MQ below (QWi Q (fun u H => va_P D classes (wMo κ τ a u) H) (cA a 13)) args s 0 0 (cA a 13)) (F0 m 121 ls [.int y0, .int y1]) := by
  obtain ⟨hx, hb, hml, hown, hts, hr, hlk, hE⟩ := id Cc
  intro x3 y0 y1 σ H locs hPt hS ls hl h
  unfold pX5_count_121 at h
  refine lv_iadd hx hb dX5_count_121 ?_
  refine lv_topi (fun v122 e122 => ?_)
  have h := h v122 e122
  refine lv_istore_n (lv' := [(2, .int v122), (0, .ref (a 0)), (3, .int x3)]) hx hb dX5_count_122 rfl hl (by decide) rfl (fun ls hl => ?_)
  refine lv_iinc (v := (x3 + 1)) (lv' := [(3, .int (x3 + 1)), (2, .int v122), (0, .ref (a 0))]) hx hb dX5_count_123 hl (k := 2) rfl rfl (by decide) rfl (fun ls hl => ?_)
  refine lv_goto (tgt := 97) hx hb dX5_count_126 (by decide) ?_
  exact hih97 v122 (x3 + 1) σ _ _ hPt hS _ (lv_sub hl [2, 1, 0] rfl) h
set_option maxHeartbeats 4000000 in
set_option maxRecDepth 100000 in
theorem bX5_count_97 {p : Program} {l : Launch} {e : Env} {s : State} {m : MethodId} {args : Array Value} {below : List Frame} {meth : Method} {c : Code} {D : va_G} {κ : Nat → ClassId} {τ : Nat → Nat} {a : Nat → Nat}   {Q : Int32 → Mx → Prop} (Cc : Cx D κ RX5 cX5_count 4 (some .int) p s m args meth c) (hIt : Ij a 13)   (n : Nat) : ∀ (x2 : Int32) (x3 : Int32) (σ : Mx) (H : Heap) (locs : List Loc) (hPt : va_P D classes (wMo κ τ a σ) H) (hS : va_S (cA a 13) s.heap H locs) (ls : Array Slot) (hl : lv_has ls 4 [(0, .ref (a 0)), (2, .int x2), (3, .int x3)]) (h : pX5_count_97 Q n x2 x3 σ), W p l e rX5_count s m args below meth c H locs 0 0 (MQ below (QWi Q (fun u H => va_P D classes (wMo κ τ a u) H) (cA a 13)) args s 0 0 (cA a 13)) (F0 m 97 ls []) := by
  obtain ⟨hx, hb, hml, hown, hts, hr, hlk, hE⟩ := id Cc
  induction n with
  | zero =>
    intro x2 x3 σ H locs hPt hS ls hl h
    exact absurd h (fun z => z)
  | succ n hih97 =>
    intro x2 x3 σ H locs hPt hS ls hl h
    have h : pX5_count_97s (pX5_count_97 Q n) Q x2 x3 σ := h
    unfold pX5_count_97s at h
    refine lv_iload_n hx hb dX5_count_97 rfl (lv_at hl 2 rfl) ?_
    refine lv_bipush (v := 10) hx hb dX5_count_98 (by decide) ?_
    refine lv_icmp_ge (tgt := 129) hx hb dX5_count_100 (by decide) (fun c100 => ?_) (fun c100 => ?_)
    · have h := h.1 c100
      refine lv_iload_n hx hb dX5_count_129 rfl (lv_at hl 1 rfl) ?_
      exact W.iret (v := x2) hx hb hr (fun t ht _ => QWi.mk (u := σ) h hPt hS ht) hS.2.2 dX5_count_130 (hlocks := hlk)
    · have h := h.2 c100
      refine lv_iload_n hx hb dX5_count_103 rfl (lv_at hl 1 rfl) ?_
      refine lv_aload_n hx hb dX5_count_104 rfl (lv_at hl 0 rfl) ?_
      refine gMo_0 Cc hPt (tw_761 hts) dX5_count_105 ?_
      refine lv_bipush (v := 9) hx hb dX5_count_108 (by decide) ?_
      refine lv_iload_n hx hb dX5_count_110 rfl (lv_at hl 2 rfl) ?_
      refine lv_iadd hx hb dX5_count_111 ?_
      refine lMo_0 Cc hPt h.1 dX5_count_112 ?_
      have h := h.2
      refine lv_if_ge (tgt := 120) hx hb dX5_count_113 (by decide) (fun c113 => ?_) (fun c113 => ?_)
      · have h := h.1 c113
        refine lv_iconst (v := 1) hx hb dX5_count_120 (by decide) ?_
        exact bX5_count_121 Cc hIt hih97 x3 1 x2 σ _ _ hPt hS _ (lv_sub hl [0, 2] rfl) h
      · have h := h.2 c113
        refine lv_iconst (v := 0) hx hb dX5_count_116 (by decide) ?_
        refine lv_goto (tgt := 121) hx hb dX5_count_117 (by decide) ?_
        exact bX5_count_121 Cc hIt hih97 x3 0 x2 σ _ _ hPt hS _ (lv_sub hl [0, 2] rfl) h
set_option maxHeartbeats 4000000 in
set_option maxRecDepth 100000 in
theorem mX5_count (l : Launch) (D : va_G) (κ : Nat → ClassId) (τ : Nat → Nat) (a : Nat → Nat) {σ : Mx} {x1 : Int32} {Q : Int32 → Mx → Prop} (hIt : Ij a 13) (h : pX5_count σ x1 Q) : Met l yX5_count (wz yX5_count cX5_count 4 (some .int)) rX5_count (va_Pc [.ref (a 0), .int x1] (PE D κ (fun H => va_P D classes (wMo κ τ a σ) H))) (QWi Q (fun u H => va_P D classes (wMo κ τ a u) H) (cA a 13)) 0 0 (cA a 13) := by
  refine Met_of l (own := RX5) (by decide) rfl (Nat.le_of_ble_eq_true rfl) (fun p e s m below meth c Cc hPP ls hl => ?_)
  obtain ⟨hx, hb, hml, hown, hts, hr, hlk, hE⟩ := id Cc
  have hl : lv_has ls 4 [(0, .ref (a 0)), (1, .int x1)] := hl
  have hPt := hPP
  have hS : va_S (cA a 13) s.heap s.heap [] := va_S.rf
  unfold pX5_count at h
  refine lv_iconst (v := 0) hx hb dX5_count_0 (by decide) ?_
  refine lv_istore_n (lv' := [(2, .int 0), (0, .ref (a 0)), (1, .int x1)]) hx hb dX5_count_1 rfl hl (by decide) rfl (fun ls hl => ?_)
  refine lv_iload_n hx hb dX5_count_2 rfl (lv_at hl 2 rfl) ?_
  by_cases c3_0 : x1 = 0
  · have h := h.1 c3_0
    refine lv_tableIn (tgt := 48) hx hb dX5_count_3 (by rw [c3_0]; decide) (by rw [c3_0]; decide) (by rw [c3_0]; rfl) (by decide) ?_
    refine lv_aload_n hx hb dX5_count_48 rfl (lv_at hl 1 rfl) ?_
    refine gMo_0 Cc hPt (tw_761 hts) dX5_count_49 ?_
    refine lv_iconst (v := 0) hx hb dX5_count_52 (by decide) ?_
    refine lMo_0 Cc hPt h.1 dX5_count_53 ?_
    have h := h.2
    exact W.iret (v := (σ 0 (0 : Int32).toNatClampNeg)) hx hb hr (fun t ht _ => QWi.mk (u := σ) h hPt hS ht) hS.2.2 dX5_count_54 (hlocks := hlk)
  · have h := h.2
    by_cases c3_1 : x1 = 1
    · have h := h.1 c3_1
      refine lv_tableIn (tgt := 55) hx hb dX5_count_3 (by rw [c3_1]; decide) (by rw [c3_1]; decide) (by rw [c3_1]; rfl) (by decide) ?_
      refine lv_aload_n hx hb dX5_count_55 rfl (lv_at hl 1 rfl) ?_
      refine gMo_0 Cc hPt (tw_761 hts) dX5_count_56 ?_
      refine lv_iconst (v := 1) hx hb dX5_count_59 (by decide) ?_
      refine lMo_0 Cc hPt h.1 dX5_count_60 ?_
      have h := h.2
      exact W.iret (v := (σ 0 (1 : Int32).toNatClampNeg)) hx hb hr (fun t ht _ => QWi.mk (u := σ) h hPt hS ht) hS.2.2 dX5_count_61 (hlocks := hlk)
    · have h := h.2
      by_cases c3_2 : x1 = 2
      · have h := h.1 c3_2
        refine lv_tableIn (tgt := 62) hx hb dX5_count_3 (by rw [c3_2]; decide) (by rw [c3_2]; decide) (by rw [c3_2]; rfl) (by decide) ?_
        refine lv_aload_n hx hb dX5_count_62 rfl (lv_at hl 1 rfl) ?_
        refine kR (kV Cc (mX5_sumNow l D κ τ a h) (qX5_sumNow hts (tw_937 hts) ⟨(Nat.le_of_ble_eq_true rfl), (Nat.le_of_ble_eq_true rfl)⟩) (va_recv hE.1 hPt (ci := 5) (q0 := 0) rfl rfl) (rest := []) hPt rfl hl.1 rfl (Nat.le_of_ble_eq_true rfl) dX5_count_63 ⟨Nat.zero_le _, Nat.zero_le _⟩) (fun r63 h => ?_)
        exact W.iret (v := r63) hx hb hr (fun t ht _ => QWi.mk (u := σ) h hPt hS ht) hS.2.2 dX5_count_66 (hlocks := hlk)
      · have h := h.2
        by_cases c3_3 : x1 = 3
        · have h := h.1 c3_3
          refine lv_tableIn (tgt := 67) hx hb dX5_count_3 (by rw [c3_3]; decide) (by rw [c3_3]; decide) (by rw [c3_3]; rfl) (by decide) ?_
          refine lv_aload_n hx hb dX5_count_67 rfl (lv_at hl 1 rfl) ?_
          refine kR (kV Cc (mX5_turnedOnes l D κ τ a h) (qX5_turnedOnes hts (tw_981 hts) ⟨(Nat.le_of_ble_eq_true rfl), (Nat.le_of_ble_eq_true rfl)⟩) (va_recv hE.1 hPt (ci := 5) (q0 := 0) rfl rfl) (rest := []) hPt rfl hl.1 rfl (Nat.le_of_ble_eq_true rfl) dX5_count_68 ⟨Nat.zero_le _, Nat.zero_le _⟩) (fun r68 h => ?_)
          refine kR (kS Cc (mX5_bits l D κ h) (qX5_bits hts (tw_1070 hts) ⟨(Nat.le_of_ble_eq_true rfl), (Nat.le_of_ble_eq_true rfl)⟩) (rest := []) trivial rfl hl.1 rfl (Nat.le_of_ble_eq_true rfl) dX5_count_71 ⟨Nat.zero_le _, Nat.zero_le _⟩) (fun r71 h => ?_)
          exact W.iret (v := r71) hx hb hr (fun t ht _ => QWi.mk (u := σ) h hPt hS ht) hS.2.2 dX5_count_74 (hlocks := hlk)
        · have h := h.2
          by_cases c3_4 : x1 = 4
          · have h := h.1 c3_4
            refine lv_tableIn (tgt := 75) hx hb dX5_count_3 (by rw [c3_4]; decide) (by rw [c3_4]; decide) (by rw [c3_4]; rfl) (by decide) ?_
            refine lv_aload_n hx hb dX5_count_75 rfl (lv_at hl 1 rfl) ?_
            refine kR (kV Cc (mX5_grantedOnes l D κ τ a h) (qX5_grantedOnes hts (tw_968 hts) ⟨(Nat.le_of_ble_eq_true rfl), (Nat.le_of_ble_eq_true rfl)⟩) (va_recv hE.1 hPt (ci := 5) (q0 := 0) rfl rfl) (rest := []) hPt rfl hl.1 rfl (Nat.le_of_ble_eq_true rfl) dX5_count_76 ⟨Nat.zero_le _, Nat.zero_le _⟩) (fun r76 h => ?_)
            refine kR (kS Cc (mX5_bits l D κ h) (qX5_bits hts (tw_1070 hts) ⟨(Nat.le_of_ble_eq_true rfl), (Nat.le_of_ble_eq_true rfl)⟩) (rest := []) trivial rfl hl.1 rfl (Nat.le_of_ble_eq_true rfl) dX5_count_79 ⟨Nat.zero_le _, Nat.zero_le _⟩) (fun r79 h => ?_)
            exact W.iret (v := r79) hx hb hr (fun t ht _ => QWi.mk (u := σ) h hPt hS ht) hS.2.2 dX5_count_82 (hlocks := hlk)
          · have h := h.2
            by_cases c3_5 : x1 = 5
            · have h := h.1 c3_5
              refine lv_tableIn (tgt := 83) hx hb dX5_count_3 (by rw [c3_5]; decide) (by rw [c3_5]; decide) (by rw [c3_5]; rfl) (by decide) ?_
              refine lv_aload_n hx hb dX5_count_83 rfl (lv_at hl 1 rfl) ?_
              refine gMo_7 Cc hPt (tw_768 hts) dX5_count_84 ?_
              exact W.iret (v := (σ 7 0)) hx hb hr (fun t ht _ => QWi.mk (u := σ) h hPt hS ht) hS.2.2 dX5_count_87 (hlocks := hlk)
            · have h := h.2
              by_cases c3_6 : x1 = 6
              · have h := h.1 c3_6
                refine lv_tableIn (tgt := 88) hx hb dX5_count_3 (by rw [c3_6]; decide) (by rw [c3_6]; decide) (by rw [c3_6]; rfl) (by decide) ?_
                refine lv_aload_n hx hb dX5_count_88 rfl (lv_at hl 1 rfl) ?_
                refine gMo_0 Cc hPt (tw_761 hts) dX5_count_89 ?_
                refine lv_iconst (v := 2) hx hb dX5_count_92 (by decide) ?_
                refine lMo_0 Cc hPt h.1 dX5_count_93 ?_
                have h := h.2
                exact W.iret (v := (σ 0 (2 : Int32).toNatClampNeg)) hx hb hr (fun t ht _ => QWi.mk (u := σ) h hPt hS ht) hS.2.2 dX5_count_94 (hlocks := hlk)
              · have h := h.2
                by_cases c3_7 : x1 = 7
                · have h := h.1 c3_7
                  refine lv_tableIn (tgt := 95) hx hb dX5_count_3 (by rw [c3_7]; decide) (by rw [c3_7]; decide) (by rw [c3_7]; rfl) (by decide) ?_
                  refine lv_iconst (v := 0) hx hb dX5_count_95 (by decide) ?_
                  refine lv_istore_n (lv' := [(3, .int 0), (2, .int 0), (0, .ref (a 0)), (1, .int x1)]) hx hb dX5_count_96 rfl hl (by decide) rfl (fun ls hl => ?_)
                  obtain ⟨n, h⟩ := h
                  exact bX5_count_97 Cc hIt n 0 0 σ _ _ hPt hS _ (lv_sub hl [2, 1, 0] rfl) h
                · have h := h.2
                  have h := h c3_0 c3_1 c3_2 c3_3 c3_4 c3_5 c3_6 c3_7
                  refine lv_tableOut (tgt := 131) hx hb dX5_count_3 (by have h0 := ne_toInt c3_0 (z := 0) (by decide); have h1 := ne_toInt c3_1 (z := 1) (by decide); have h2 := ne_toInt c3_2 (z := 2) (by decide); have h3 := ne_toInt c3_3 (z := 3) (by decide); have h4 := ne_toInt c3_4 (z := 4) (by decide); have h5 := ne_toInt c3_5 (z := 5) (by decide); have h6 := ne_toInt c3_6 (z := 6) (by decide); have h7 := ne_toInt c3_7 (z := 7) (by decide); omega) (by decide) ?_
                  refine lv_aload_n hx hb dX5_count_131 rfl (lv_at hl 1 rfl) ?_
                  refine lv_ldc (own := RX5) (v := (-1000001)) hx hb hown (tw_842 hts) dX5_count_132 ?_
                  refine kWi (kV Cc (mX5_finding l D κ τ a hIt h) (qX5_finding hts (tw_843 hts) ⟨(Nat.le_of_ble_eq_true rfl), (Nat.le_of_ble_eq_true rfl)⟩) (va_recv hE.1 hPt (ci := 5) (q0 := 0) rfl rfl) (rest := []) hPt rfl hl.1 rfl (Nat.le_of_ble_eq_true rfl) dX5_count_134 ⟨Nat.zero_le _, Nat.zero_le _⟩) hS (fun q h9 => h9) (fun r134 u134 H1 locs1 h hB hk hS1 => ?_)
                  have hPt := hB
                  have hS := hS1
                  exact W.iret (v := r134) hx hb hr (fun t ht _ => QWi.mk (u := u134) h hPt hS ht) hS.2.2 dX5_count_137 (hlocks := hlk)
theorem qX5_count {R : Room} {s : State} {args : Array Value} {own : String} {idx : Nat} (hts : ∀ w ∈ gG, w.before args s = true) (hl : (Cond.methodLink own idx yX5_count).before args s = true) (hR : rX5_count.frames + 1 ≤ R.frames ∧ 8 + (4 + 11) + rX5_count.locals ≤ R.locals) : CallW R s args own RX5 idx yX5_count cX5_count 4 (some .int) (wz yX5_count cX5_count 4 (some .int)) rX5_count 0 0 1 := ⟨kw 1 hts mw_1233 rfl rfl (tw_75 hts) hl (by decide +kernel) hR, tw_1231 hts, tw_1232 hts⟩
abbrev rX5_status : Room := { frames := 1, cells := 0, slots := 0, locals := 22 }
def pX5_status_27 (Q : Int32 → Mx → Prop) (y0 : Int32) (σ : Mx) : Prop := Q y0 σ
def pX5_status (σ : Mx) (x1 : Int32) (Q : Int32 → Mx → Prop) : Prop := pX5_within x1 (-1) 6 (fun r4 => ((r4 = 0 → (pX5_finding σ (-1000001) (fun r24 u24 => (pX5_status_27 Q r24 u24)))) ∧ (¬ r4 = 0 → (vp_in (x1 + 1) 8 ∧ (pX5_status_27 Q (σ 4 (x1 + 1).toNatClampNeg) σ)))))
set_option maxHeartbeats 4000000 in
set_option maxRecDepth 100000 in
theorem bX5_status_27 {p : Program} {l : Launch} {e : Env} {s : State} {m : MethodId} {args : Array Value} {below : List Frame} {meth : Method} {c : Code} {D : va_G} {κ : Nat → ClassId} {τ : Nat → Nat} {a : Nat → Nat}   {Q : Int32 → Mx → Prop} (Cc : Cx D κ RX5 cX5_status 2 (some .int) p s m args meth c) (hIt : Ij a 13)   : ∀ (y0 : Int32) (σ : Mx) (H : Heap) (locs : List Loc) (hPt : va_P D classes (wMo κ τ a σ) H) (hS : va_S (cA a 13) s.heap H locs) (ls : Array Slot) (hl : lv_has ls 2 []) (h : pX5_status_27 Q y0 σ), W p l e rX5_status s m args below meth c H locs 0 0 (MQ below (QWi Q (fun u H => va_P D classes (wMo κ τ a u) H) (cA a 13)) args s 0 0 (cA a 13)) (F0 m 27 ls [.int y0]) := by
  obtain ⟨hx, hb, hml, hown, hts, hr, hlk, hE⟩ := id Cc
  intro y0 σ H locs hPt hS ls hl h
  unfold pX5_status_27 at h
  exact W.iret (v := y0) hx hb hr (fun t ht _ => QWi.mk (u := σ) h hPt hS ht) hS.2.2 dX5_status_27 (hlocks := hlk)
set_option maxHeartbeats 4000000 in
set_option maxRecDepth 100000 in
theorem mX5_status (l : Launch) (D : va_G) (κ : Nat → ClassId) (τ : Nat → Nat) (a : Nat → Nat) {σ : Mx} {x1 : Int32} {Q : Int32 → Mx → Prop} (hIt : Ij a 13) (h : pX5_status σ x1 Q) : Met l yX5_status (wz yX5_status cX5_status 2 (some .int)) rX5_status (va_Pc [.ref (a 0), .int x1] (PE D κ (fun H => va_P D classes (wMo κ τ a σ) H))) (QWi Q (fun u H => va_P D classes (wMo κ τ a u) H) (cA a 13)) 0 0 (cA a 13) := by
  refine Met_of l (own := RX5) (by decide) rfl (Nat.le_of_ble_eq_true rfl) (fun p e s m below meth c Cc hPP ls hl => ?_)
  obtain ⟨hx, hb, hml, hown, hts, hr, hlk, hE⟩ := id Cc
  have hl : lv_has ls 2 [(0, .ref (a 0)), (1, .int x1)] := hl
  have hPt := hPP
  have hS : va_S (cA a 13) s.heap s.heap [] := va_S.rf
  unfold pX5_status at h
  refine lv_iload_n hx hb dX5_status_0 rfl (lv_at hl 1 rfl) ?_
  refine lv_iconst (v := (-1)) hx hb dX5_status_1 (by decide) ?_
  refine lv_bipush (v := 6) hx hb dX5_status_2 (by decide) ?_
  refine kR (kS Cc (mX5_within l D κ h) (qX5_within hts (tw_832 hts) ⟨(Nat.le_of_ble_eq_true rfl), (Nat.le_of_ble_eq_true rfl)⟩) (rest := []) trivial rfl hl.1 rfl (Nat.le_of_ble_eq_true rfl) dX5_status_4 ⟨Nat.zero_le _, Nat.zero_le _⟩) (fun r4 h => ?_)
  refine lv_if_eq (tgt := 21) hx hb dX5_status_7 (by decide) (fun c7 => ?_) (fun c7 => ?_)
  · have h := h.1 c7
    refine lv_aload_n hx hb dX5_status_21 rfl (lv_at hl 0 rfl) ?_
    refine lv_ldc (own := RX5) (v := (-1000001)) hx hb hown (tw_842 hts) dX5_status_22 ?_
    refine kWi (kV Cc (mX5_finding l D κ τ a hIt h) (qX5_finding hts (tw_843 hts) ⟨(Nat.le_of_ble_eq_true rfl), (Nat.le_of_ble_eq_true rfl)⟩) (va_recv hE.1 hPt (ci := 5) (q0 := 0) rfl rfl) (rest := []) hPt rfl hl.1 rfl (Nat.le_of_ble_eq_true rfl) dX5_status_24 ⟨Nat.zero_le _, Nat.zero_le _⟩) hS (fun q h9 => h9) (fun r24 u24 H1 locs1 h hB hk hS1 => ?_)
    have hPt := hB
    have hS := hS1
    exact bX5_status_27 Cc hIt r24 u24 _ _ hPt hS _ (lv_sub hl [] rfl) h
  · have h := h.2 c7
    refine lv_aload_n hx hb dX5_status_10 rfl (lv_at hl 0 rfl) ?_
    refine gMo_4 Cc hPt (tw_765 hts) dX5_status_11 ?_
    refine lv_iload_n hx hb dX5_status_14 rfl (lv_at hl 1 rfl) ?_
    refine lv_iconst (v := 1) hx hb dX5_status_15 (by decide) ?_
    refine lv_iadd hx hb dX5_status_16 ?_
    refine lMo_4 Cc hPt h.1 dX5_status_17 ?_
    have h := h.2
    refine lv_goto (tgt := 27) hx hb dX5_status_18 (by decide) ?_
    exact bX5_status_27 Cc hIt (σ 4 (x1 + 1).toNatClampNeg) σ _ _ hPt hS _ (lv_sub hl [] rfl) h
theorem qX5_status {R : Room} {s : State} {args : Array Value} {own : String} {idx : Nat} (hts : ∀ w ∈ gG, w.before args s = true) (hl : (Cond.methodLink own idx yX5_status).before args s = true) (hR : rX5_status.frames + 1 ≤ R.frames ∧ 8 + (2 + 11) + rX5_status.locals ≤ R.locals) : CallW R s args own RX5 idx yX5_status cX5_status 2 (some .int) (wz yX5_status cX5_status 2 (some .int)) rX5_status 0 0 1 := ⟨kw 1 hts mw_1237 rfl rfl (tw_75 hts) hl (by decide +kernel) hR, tw_1235 hts, tw_1236 hts⟩
