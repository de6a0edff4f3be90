abbrev rX5_copyRow_02 : Room := { frames := 0, cells := 0, slots := 0, locals := 0 }
def pX5_copyRow_02_2s  (ih2 : Int32 → Mx → Prop) (Q : Mx → Prop) (x2 : Int32) (σ : Mx) : Prop := (67 ≤ x2 → (Q σ)) ∧ (¬ 67 ≤ x2 → (vp_in x2 67 ∧ (vp_in x2 67 ∧ (ih2 (x2 + 1) (st σ 2 x2.toNatClampNeg (σ 0 x2.toNatClampNeg))))))
noncomputable def pX5_copyRow_02_2 (Q : Mx → Prop) (n : Nat) : Int32 → Mx → Prop := Nat.rec (motive := fun _ => Int32 → Mx → Prop) (fun _ _ => False) (fun _ ih => pX5_copyRow_02_2s ih Q) n
def pX5_copyRow_02 (σ : Mx)  (Q : Mx → Prop) : Prop := ∃ n, pX5_copyRow_02_2 Q n 0 σ
set_option maxHeartbeats 4000000 in
set_option maxRecDepth 100000 in
theorem bX5_copyRow_02_2 {p : Program} {l : Launch} {e : Env} {s : State} {m : MethodId} {args : Array Value} {below : List Frame} {meth : Method} {c : Code} {D : va_G} {κ : Nat → ClassId} {τ : Nat → Nat} {a : Nat → Nat}   {Q : Mx → Prop} (Cc : Cx D κ RX5 cX5_copyRow 3 none p s m args meth c) (hIt : Ij a 13)   (n : Nat) : ∀ (x2 : Int32) (σ : Mx) (H : Heap) (locs : List Loc) (hPt : va_P D classes (wMo κ τ a σ) H) (hS : va_S (cA a 13) s.heap H locs) (ls : Array Slot) (hl : lv_has ls 3 [(0, .ref (a 1)), (1, .ref (a 3)), (2, .int x2)]) (h : pX5_copyRow_02_2 Q n x2 σ), W p l e rX5_copyRow_02 s m args below meth c H locs 0 0 (MQ below (QWv Q (fun u H => va_P D classes (wMo κ τ a u) H) (cA a 13)) args s 0 0 (cA a 13)) (F0 m 2 ls []) := by
  obtain ⟨hx, hb, hml, hown, hts, hr, hlk, hE⟩ := id Cc
  induction n with
  | zero =>
    intro x2 σ H locs hPt hS ls hl h
    exact absurd h (fun z => z)
  | succ n hih2 =>
    intro x2 σ H locs hPt hS ls hl h
    have h : pX5_copyRow_02_2s (pX5_copyRow_02_2 Q n) Q x2 σ := h
    unfold pX5_copyRow_02_2s at h
    refine lv_iload_n hx hb dX5_copyRow_2 rfl (lv_at hl 2 rfl) ?_
    refine lv_bipush (v := 67) hx hb dX5_copyRow_3 (by decide) ?_
    refine lv_icmp_ge (tgt := 20) hx hb dX5_copyRow_5 (by decide) (fun c5 => ?_) (fun c5 => ?_)
    · have h := h.1 c5
      exact W.vret hx hb hr (fun t ht _ => QWv.mk (u := σ) h hPt hS ht) hS.2.2 dX5_copyRow_20 (hlocks := hlk)
    · have h := h.2 c5
      refine lv_aload_n hx hb dX5_copyRow_8 rfl (lv_at hl 1 rfl) ?_
      refine lv_iload_n hx hb dX5_copyRow_9 rfl (lv_at hl 2 rfl) ?_
      refine lv_aload_n hx hb dX5_copyRow_10 rfl (lv_at hl 0 rfl) ?_
      refine lv_iload_n hx hb dX5_copyRow_11 rfl (lv_at hl 2 rfl) ?_
      refine lMo_0 Cc hPt h.1 dX5_copyRow_12 ?_
      have h := h.2
      refine sMo_2 Cc hPt hIt hS ⟨3, by decide, rfl⟩ h.1 dX5_copyRow_13 (fun H1 locs1 hB hS1 hk => ?_)
      have h := h.2
      have hPt := hB
      have hS := hS1
      refine lv_iinc (v := (x2 + 1)) (lv' := [(2, .int (x2 + 1)), (0, .ref (a 1)), (1, .ref (a 3))]) hx hb dX5_copyRow_14 hl (k := 2) rfl rfl (by decide) rfl (fun ls hl => ?_)
      refine lv_goto (tgt := 2) hx hb dX5_copyRow_17 (by decide) ?_
      exact hih2 (x2 + 1) (st σ 2 x2.toNatClampNeg (σ 0 x2.toNatClampNeg)) _ _ hPt hS _ (lv_sub hl [1, 2, 0] rfl) h
set_option maxHeartbeats 4000000 in
set_option maxRecDepth 100000 in
theorem mX5_copyRow_02 (l : Launch) (D : va_G) (κ : Nat → ClassId) (τ : Nat → Nat) (a : Nat → Nat) {σ : Mx}  {Q : Mx → Prop} (hIt : Ij a 13) (h : pX5_copyRow_02 σ  Q) : Met l yX5_copyRow (wz yX5_copyRow cX5_copyRow 3 none) rX5_copyRow_02 (va_Pc [.ref (a 1), .ref (a 3)] (PE D κ (fun H => va_P D classes (wMo κ τ a σ) H))) (QWv Q (fun u H => va_P D classes (wMo κ τ a u) H) (cA a 13)) 0 0 (cA a 13) := by
  refine Met_of l (own := RX5) (by decide) rfl (Nat.le_of_ble_eq_true rfl) (fun p e s m below meth c Cc hPP ls hl => ?_)
  obtain ⟨hx, hb, hml, hown, hts, hr, hlk, hE⟩ := id Cc
  have hl : lv_has ls 3 [(0, .ref (a 1)), (1, .ref (a 3))] := hl
  have hPt := hPP
  have hS : va_S (cA a 13) s.heap s.heap [] := va_S.rf
  unfold pX5_copyRow_02 at h
  refine lv_iconst (v := 0) hx hb dX5_copyRow_0 (by decide) ?_
  refine lv_istore_n (lv' := [(2, .int 0), (0, .ref (a 1)), (1, .ref (a 3))]) hx hb dX5_copyRow_1 rfl hl (by decide) rfl (fun ls hl => ?_)
  obtain ⟨n, h⟩ := h
  exact bX5_copyRow_02_2 Cc hIt n 0 σ _ _ hPt hS _ (lv_sub hl [1, 2, 0] rfl) h
theorem qX5_copyRow_02 {R : Room} {s : State} {args : Array Value} {own : String} {idx : Nat} (hts : ∀ w ∈ gG, w.before args s = true) (hl : (Cond.methodLink own idx yX5_copyRow).before args s = true) (hR : rX5_copyRow_02.frames + 1 ≤ R.frames ∧ 8 + (3 + 11) + rX5_copyRow_02.locals ≤ R.locals) : CallB R s args own idx yX5_copyRow cX5_copyRow 3 none (wz yX5_copyRow cX5_copyRow 3 none) rX5_copyRow_02 0 0 2 ∧ (Cond.static yX5_copyRow).before args s = true := ⟨kw 2 hts mw_1016 rfl rfl (tw_75 hts) hl (by decide +kernel) hR, tw_1015 hts⟩
abbrev rX5_copyRow_20 : Room := { frames := 0, cells := 0, slots := 0, locals := 0 }
def pX5_copyRow_20_2s  (ih2 : Int32 → Mx → Prop) (Q : Mx → Prop) (x2 : Int32) (σ : Mx) : Prop := (67 ≤ x2 → (Q σ)) ∧ (¬ 67 ≤ x2 → (vp_in x2 67 ∧ (vp_in x2 67 ∧ (ih2 (x2 + 1) (st σ 0 x2.toNatClampNeg (σ 2 x2.toNatClampNeg))))))
noncomputable def pX5_copyRow_20_2 (Q : Mx → Prop) (n : Nat) : Int32 → Mx → Prop := Nat.rec (motive := fun _ => Int32 → Mx → Prop) (fun _ _ => False) (fun _ ih => pX5_copyRow_20_2s ih Q) n
def pX5_copyRow_20 (σ : Mx)  (Q : Mx → Prop) : Prop := ∃ n, pX5_copyRow_20_2 Q n 0 σ
set_option maxHeartbeats 4000000 in
set_option maxRecDepth 100000 in
theorem bX5_copyRow_20_2 {p : Program} {l : Launch} {e : Env} {s : State} {m : MethodId} {args : Array Value} {below : List Frame} {meth : Method} {c : Code} {D : va_G} {κ : Nat → ClassId} {τ : Nat → Nat} {a : Nat → Nat}   {Q : Mx → Prop} (Cc : Cx D κ RX5 cX5_copyRow 3 none p s m args meth c) (hIt : Ij a 13)   (n : Nat) : ∀ (x2 : Int32) (σ : Mx) (H : Heap) (locs : List Loc) (hPt : va_P D classes (wMo κ τ a σ) H) (hS : va_S (cA a 13) s.heap H locs) (ls : Array Slot) (hl : lv_has ls 3 [(0, .ref (a 3)), (1, .ref (a 1)), (2, .int x2)]) (h : pX5_copyRow_20_2 Q n x2 σ), W p l e rX5_copyRow_20 s m args below meth c H locs 0 0 (MQ below (QWv Q (fun u H => va_P D classes (wMo κ τ a u) H) (cA a 13)) args s 0 0 (cA a 13)) (F0 m 2 ls []) := by
  obtain ⟨hx, hb, hml, hown, hts, hr, hlk, hE⟩ := id Cc
  induction n with
  | zero =>
    intro x2 σ H locs hPt hS ls hl h
    exact absurd h (fun z => z)
  | succ n hih2 =>
    intro x2 σ H locs hPt hS ls hl h
    have h : pX5_copyRow_20_2s (pX5_copyRow_20_2 Q n) Q x2 σ := h
    unfold pX5_copyRow_20_2s at h
    refine lv_iload_n hx hb dX5_copyRow_2 rfl (lv_at hl 2 rfl) ?_
    refine lv_bipush (v := 67) hx hb dX5_copyRow_3 (by decide) ?_
    refine lv_icmp_ge (tgt := 20) hx hb dX5_copyRow_5 (by decide) (fun c5 => ?_) (fun c5 => ?_)
    · have h := h.1 c5
      exact W.vret hx hb hr (fun t ht _ => QWv.mk (u := σ) h hPt hS ht) hS.2.2 dX5_copyRow_20 (hlocks := hlk)
    · have h := h.2 c5
      refine lv_aload_n hx hb dX5_copyRow_8 rfl (lv_at hl 1 rfl) ?_
      refine lv_iload_n hx hb dX5_copyRow_9 rfl (lv_at hl 2 rfl) ?_
      refine lv_aload_n hx hb dX5_copyRow_10 rfl (lv_at hl 0 rfl) ?_
      refine lv_iload_n hx hb dX5_copyRow_11 rfl (lv_at hl 2 rfl) ?_
      refine lMo_2 Cc hPt h.1 dX5_copyRow_12 ?_
      have h := h.2
      refine sMo_0 Cc hPt hIt hS ⟨1, by decide, rfl⟩ h.1 dX5_copyRow_13 (fun H1 locs1 hB hS1 hk => ?_)
      have h := h.2
      have hPt := hB
      have hS := hS1
      refine lv_iinc (v := (x2 + 1)) (lv' := [(2, .int (x2 + 1)), (0, .ref (a 3)), (1, .ref (a 1))]) hx hb dX5_copyRow_14 hl (k := 2) rfl rfl (by decide) rfl (fun ls hl => ?_)
      refine lv_goto (tgt := 2) hx hb dX5_copyRow_17 (by decide) ?_
      exact hih2 (x2 + 1) (st σ 0 x2.toNatClampNeg (σ 2 x2.toNatClampNeg)) _ _ hPt hS _ (lv_sub hl [1, 2, 0] rfl) h
set_option maxHeartbeats 4000000 in
set_option maxRecDepth 100000 in
theorem mX5_copyRow_20 (l : Launch) (D : va_G) (κ : Nat → ClassId) (τ : Nat → Nat) (a : Nat → Nat) {σ : Mx}  {Q : Mx → Prop} (hIt : Ij a 13) (h : pX5_copyRow_20 σ  Q) : Met l yX5_copyRow (wz yX5_copyRow cX5_copyRow 3 none) rX5_copyRow_20 (va_Pc [.ref (a 3), .ref (a 1)] (PE D κ (fun H => va_P D classes (wMo κ τ a σ) H))) (QWv Q (fun u H => va_P D classes (wMo κ τ a u) H) (cA a 13)) 0 0 (cA a 13) := by
  refine Met_of l (own := RX5) (by decide) rfl (Nat.le_of_ble_eq_true rfl) (fun p e s m below meth c Cc hPP ls hl => ?_)
  obtain ⟨hx, hb, hml, hown, hts, hr, hlk, hE⟩ := id Cc
  have hl : lv_has ls 3 [(0, .ref (a 3)), (1, .ref (a 1))] := hl
  have hPt := hPP
  have hS : va_S (cA a 13) s.heap s.heap [] := va_S.rf
  unfold pX5_copyRow_20 at h
  refine lv_iconst (v := 0) hx hb dX5_copyRow_0 (by decide) ?_
  refine lv_istore_n (lv' := [(2, .int 0), (0, .ref (a 3)), (1, .ref (a 1))]) hx hb dX5_copyRow_1 rfl hl (by decide) rfl (fun ls hl => ?_)
  obtain ⟨n, h⟩ := h
  exact bX5_copyRow_20_2 Cc hIt n 0 σ _ _ hPt hS _ (lv_sub hl [1, 2, 0] rfl) h
theorem qX5_copyRow_20 {R : Room} {s : State} {args : Array Value} {own : String} {idx : Nat} (hts : ∀ w ∈ gG, w.before args s = true) (hl : (Cond.methodLink own idx yX5_copyRow).before args s = true) (hR : rX5_copyRow_20.frames + 1 ≤ R.frames ∧ 8 + (3 + 11) + rX5_copyRow_20.locals ≤ R.locals) : CallB R s args own idx yX5_copyRow cX5_copyRow 3 none (wz yX5_copyRow cX5_copyRow 3 none) rX5_copyRow_20 0 0 2 ∧ (Cond.static yX5_copyRow).before args s = true := ⟨kw 2 hts mw_1016 rfl rfl (tw_75 hts) hl (by decide +kernel) hR, tw_1015 hts⟩
abbrev rX5_copyRow_01 : Room := { frames := 0, cells := 0, slots := 0, locals := 0 }
def pX5_copyRow_01_2s  (ih2 : Int32 → Mx → Prop) (Q : Mx → Prop) (x2 : Int32) (σ : Mx) : Prop := (67 ≤ x2 → (Q σ)) ∧ (¬ 67 ≤ x2 → (vp_in x2 67 ∧ (vp_in x2 67 ∧ (ih2 (x2 + 1) (st σ 1 x2.toNatClampNeg (σ 0 x2.toNatClampNeg))))))
noncomputable def pX5_copyRow_01_2 (Q : Mx → Prop) (n : Nat) : Int32 → Mx → Prop := Nat.rec (motive := fun _ => Int32 → Mx → Prop) (fun _ _ => False) (fun _ ih => pX5_copyRow_01_2s ih Q) n
def pX5_copyRow_01 (σ : Mx)  (Q : Mx → Prop) : Prop := ∃ n, pX5_copyRow_01_2 Q n 0 σ
set_option maxHeartbeats 4000000 in
set_option maxRecDepth 100000 in
theorem bX5_copyRow_01_2 {p : Program} {l : Launch} {e : Env} {s : State} {m : MethodId} {args : Array Value} {below : List Frame} {meth : Method} {c : Code} {D : va_G} {κ : Nat → ClassId} {τ : Nat → Nat} {a : Nat → Nat}   {Q : Mx → Prop} (Cc : Cx D κ RX5 cX5_copyRow 3 none p s m args meth c) (hIt : Ij a 13)   (n : Nat) : ∀ (x2 : Int32) (σ : Mx) (H : Heap) (locs : List Loc) (hPt : va_P D classes (wMo κ τ a σ) H) (hS : va_S (cA a 13) s.heap H locs) (ls : Array Slot) (hl : lv_has ls 3 [(0, .ref (a 1)), (1, .ref (a 2)), (2, .int x2)]) (h : pX5_copyRow_01_2 Q n x2 σ), W p l e rX5_copyRow_01 s m args below meth c H locs 0 0 (MQ below (QWv Q (fun u H => va_P D classes (wMo κ τ a u) H) (cA a 13)) args s 0 0 (cA a 13)) (F0 m 2 ls []) := by
  obtain ⟨hx, hb, hml, hown, hts, hr, hlk, hE⟩ := id Cc
  induction n with
  | zero =>
    intro x2 σ H locs hPt hS ls hl h
    exact absurd h (fun z => z)
  | succ n hih2 =>
    intro x2 σ H locs hPt hS ls hl h
    have h : pX5_copyRow_01_2s (pX5_copyRow_01_2 Q n) Q x2 σ := h
    unfold pX5_copyRow_01_2s at h
    refine lv_iload_n hx hb dX5_copyRow_2 rfl (lv_at hl 2 rfl) ?_
    refine lv_bipush (v := 67) hx hb dX5_copyRow_3 (by decide) ?_
    refine lv_icmp_ge (tgt := 20) hx hb dX5_copyRow_5 (by decide) (fun c5 => ?_) (fun c5 => ?_)
    · have h := h.1 c5
      exact W.vret hx hb hr (fun t ht _ => QWv.mk (u := σ) h hPt hS ht) hS.2.2 dX5_copyRow_20 (hlocks := hlk)
    · have h := h.2 c5
      refine lv_aload_n hx hb dX5_copyRow_8 rfl (lv_at hl 1 rfl) ?_
      refine lv_iload_n hx hb dX5_copyRow_9 rfl (lv_at hl 2 rfl) ?_
      refine lv_aload_n hx hb dX5_copyRow_10 rfl (lv_at hl 0 rfl) ?_
      refine lv_iload_n hx hb dX5_copyRow_11 rfl (lv_at hl 2 rfl) ?_
      refine lMo_0 Cc hPt h.1 dX5_copyRow_12 ?_
      have h := h.2
      refine sMo_1 Cc hPt hIt hS ⟨2, by decide, rfl⟩ h.1 dX5_copyRow_13 (fun H1 locs1 hB hS1 hk => ?_)
      have h := h.2
      have hPt := hB
      have hS := hS1
      refine lv_iinc (v := (x2 + 1)) (lv' := [(2, .int (x2 + 1)), (0, .ref (a 1)), (1, .ref (a 2))]) hx hb dX5_copyRow_14 hl (k := 2) rfl rfl (by decide) rfl (fun ls hl => ?_)
      refine lv_goto (tgt := 2) hx hb dX5_copyRow_17 (by decide) ?_
      exact hih2 (x2 + 1) (st σ 1 x2.toNatClampNeg (σ 0 x2.toNatClampNeg)) _ _ hPt hS _ (lv_sub hl [1, 2, 0] rfl) h
set_option maxHeartbeats 4000000 in
set_option maxRecDepth 100000 in
theorem mX5_copyRow_01 (l : Launch) (D : va_G) (κ : Nat → ClassId) (τ : Nat → Nat) (a : Nat → Nat) {σ : Mx}  {Q : Mx → Prop} (hIt : Ij a 13) (h : pX5_copyRow_01 σ  Q) : Met l yX5_copyRow (wz yX5_copyRow cX5_copyRow 3 none) rX5_copyRow_01 (va_Pc [.ref (a 1), .ref (a 2)] (PE D κ (fun H => va_P D classes (wMo κ τ a σ) H))) (QWv Q (fun u H => va_P D classes (wMo κ τ a u) H) (cA a 13)) 0 0 (cA a 13) := by
  refine Met_of l (own := RX5) (by decide) rfl (Nat.le_of_ble_eq_true rfl) (fun p e s m below meth c Cc hPP ls hl => ?_)
  obtain ⟨hx, hb, hml, hown, hts, hr, hlk, hE⟩ := id Cc
  have hl : lv_has ls 3 [(0, .ref (a 1)), (1, .ref (a 2))] := hl
  have hPt := hPP
  have hS : va_S (cA a 13) s.heap s.heap [] := va_S.rf
  unfold pX5_copyRow_01 at h
  refine lv_iconst (v := 0) hx hb dX5_copyRow_0 (by decide) ?_
  refine lv_istore_n (lv' := [(2, .int 0), (0, .ref (a 1)), (1, .ref (a 2))]) hx hb dX5_copyRow_1 rfl hl (by decide) rfl (fun ls hl => ?_)
  obtain ⟨n, h⟩ := h
  exact bX5_copyRow_01_2 Cc hIt n 0 σ _ _ hPt hS _ (lv_sub hl [1, 2, 0] rfl) h
theorem qX5_copyRow_01 {R : Room} {s : State} {args : Array Value} {own : String} {idx : Nat} (hts : ∀ w ∈ gG, w.before args s = true) (hl : (Cond.methodLink own idx yX5_copyRow).before args s = true) (hR : rX5_copyRow_01.frames + 1 ≤ R.frames ∧ 8 + (3 + 11) + rX5_copyRow_01.locals ≤ R.locals) : CallB R s args own idx yX5_copyRow cX5_copyRow 3 none (wz yX5_copyRow cX5_copyRow 3 none) rX5_copyRow_01 0 0 2 ∧ (Cond.static yX5_copyRow).before args s = true := ⟨kw 2 hts mw_1016 rfl rfl (tw_75 hts) hl (by decide +kernel) hR, tw_1015 hts⟩
abbrev rX5_copyRow_10 : Room := { frames := 0, cells := 0, slots := 0, locals := 0 }
def pX5_copyRow_10_2s  (ih2 : Int32 → Mx → Prop) (Q : Mx → Prop) (x2 : Int32) (σ : Mx) : Prop := (67 ≤ x2 → (Q σ)) ∧ (¬ 67 ≤ x2 → (vp_in x2 67 ∧ (vp_in x2 67 ∧ (ih2 (x2 + 1) (st σ 0 x2.toNatClampNeg (σ 1 x2.toNatClampNeg))))))
noncomputable def pX5_copyRow_10_2 (Q : Mx → Prop) (n : Nat) : Int32 → Mx → Prop := Nat.rec (motive := fun _ => Int32 → Mx → Prop) (fun _ _ => False) (fun _ ih => pX5_copyRow_10_2s ih Q) n
def pX5_copyRow_10 (σ : Mx)  (Q : Mx → Prop) : Prop := ∃ n, pX5_copyRow_10_2 Q n 0 σ
set_option maxHeartbeats 4000000 in
set_option maxRecDepth 100000 in
theorem bX5_copyRow_10_2 {p : Program} {l : Launch} {e : Env} {s : State} {m : MethodId} {args : Array Value} {below : List Frame} {meth : Method} {c : Code} {D : va_G} {κ : Nat → ClassId} {τ : Nat → Nat} {a : Nat → Nat}   {Q : Mx → Prop} (Cc : Cx D κ RX5 cX5_copyRow 3 none p s m args meth c) (hIt : Ij a 13)   (n : Nat) : ∀ (x2 : Int32) (σ : Mx) (H : Heap) (locs : List Loc) (hPt : va_P D classes (wMo κ τ a σ) H) (hS : va_S (cA a 13) s.heap H locs) (ls : Array Slot) (hl : lv_has ls 3 [(0, .ref (a 2)), (1, .ref (a 1)), (2, .int x2)]) (h : pX5_copyRow_10_2 Q n x2 σ), W p l e rX5_copyRow_10 s m args below meth c H locs 0 0 (MQ below (QWv Q (fun u H => va_P D classes (wMo κ τ a u) H) (cA a 13)) args s 0 0 (cA a 13)) (F0 m 2 ls []) := by
  obtain ⟨hx, hb, hml, hown, hts, hr, hlk, hE⟩ := id Cc
  induction n with
  | zero =>
    intro x2 σ H locs hPt hS ls hl h
    exact absurd h (fun z => z)
  | succ n hih2 =>
    intro x2 σ H locs hPt hS ls hl h
    have h : pX5_copyRow_10_2s (pX5_copyRow_10_2 Q n) Q x2 σ := h
    unfold pX5_copyRow_10_2s at h
    refine lv_iload_n hx hb dX5_copyRow_2 rfl (lv_at hl 2 rfl) ?_
    refine lv_bipush (v := 67) hx hb dX5_copyRow_3 (by decide) ?_
    refine lv_icmp_ge (tgt := 20) hx hb dX5_copyRow_5 (by decide) (fun c5 => ?_) (fun c5 => ?_)
    · have h := h.1 c5
      exact W.vret hx hb hr (fun t ht _ => QWv.mk (u := σ) h hPt hS ht) hS.2.2 dX5_copyRow_20 (hlocks := hlk)
    · have h := h.2 c5
      refine lv_aload_n hx hb dX5_copyRow_8 rfl (lv_at hl 1 rfl) ?_
      refine lv_iload_n hx hb dX5_copyRow_9 rfl (lv_at hl 2 rfl) ?_
      refine lv_aload_n hx hb dX5_copyRow_10 rfl (lv_at hl 0 rfl) ?_
      refine lv_iload_n hx hb dX5_copyRow_11 rfl (lv_at hl 2 rfl) ?_
      refine lMo_1 Cc hPt h.1 dX5_copyRow_12 ?_
      have h := h.2
      refine sMo_0 Cc hPt hIt hS ⟨1, by decide, rfl⟩ h.1 dX5_copyRow_13 (fun H1 locs1 hB hS1 hk => ?_)
      have h := h.2
      have hPt := hB
      have hS := hS1
      refine lv_iinc (v := (x2 + 1)) (lv' := [(2, .int (x2 + 1)), (0, .ref (a 2)), (1, .ref (a 1))]) hx hb dX5_copyRow_14 hl (k := 2) rfl rfl (by decide) rfl (fun ls hl => ?_)
      refine lv_goto (tgt := 2) hx hb dX5_copyRow_17 (by decide) ?_
      exact hih2 (x2 + 1) (st σ 0 x2.toNatClampNeg (σ 1 x2.toNatClampNeg)) _ _ hPt hS _ (lv_sub hl [1, 2, 0] rfl) h
set_option maxHeartbeats 4000000 in
set_option maxRecDepth 100000 in
theorem mX5_copyRow_10 (l : Launch) (D : va_G) (κ : Nat → ClassId) (τ : Nat → Nat) (a : Nat → Nat) {σ : Mx}  {Q : Mx → Prop} (hIt : Ij a 13) (h : pX5_copyRow_10 σ  Q) : Met l yX5_copyRow (wz yX5_copyRow cX5_copyRow 3 none) rX5_copyRow_10 (va_Pc [.ref (a 2), .ref (a 1)] (PE D κ (fun H => va_P D classes (wMo κ τ a σ) H))) (QWv Q (fun u H => va_P D classes (wMo κ τ a u) H) (cA a 13)) 0 0 (cA a 13) := by
  refine Met_of l (own := RX5) (by decide) rfl (Nat.le_of_ble_eq_true rfl) (fun p e s m below meth c Cc hPP ls hl => ?_)
  obtain ⟨hx, hb, hml, hown, hts, hr, hlk, hE⟩ := id Cc
  have hl : lv_has ls 3 [(0, .ref (a 2)), (1, .ref (a 1))] := hl
  have hPt := hPP
  have hS : va_S (cA a 13) s.heap s.heap [] := va_S.rf
  unfold pX5_copyRow_10 at h
  refine lv_iconst (v := 0) hx hb dX5_copyRow_0 (by decide) ?_
  refine lv_istore_n (lv' := [(2, .int 0), (0, .ref (a 2)), (1, .ref (a 1))]) hx hb dX5_copyRow_1 rfl hl (by decide) rfl (fun ls hl => ?_)
  obtain ⟨n, h⟩ := h
  exact bX5_copyRow_10_2 Cc hIt n 0 σ _ _ hPt hS _ (lv_sub hl [1, 2, 0] rfl) h
theorem qX5_copyRow_10 {R : Room} {s : State} {args : Array Value} {own : String} {idx : Nat} (hts : ∀ w ∈ gG, w.before args s = true) (hl : (Cond.methodLink own idx yX5_copyRow).before args s = true) (hR : rX5_copyRow_10.frames + 1 ≤ R.frames ∧ 8 + (3 + 11) + rX5_copyRow_10.locals ≤ R.locals) : CallB R s args own idx yX5_copyRow cX5_copyRow 3 none (wz yX5_copyRow cX5_copyRow 3 none) rX5_copyRow_10 0 0 2 ∧ (Cond.static yX5_copyRow).before args s = true := ⟨kw 2 hts mw_1016 rfl rfl (tw_75 hts) hl (by decide +kernel) hR, tw_1015 hts⟩
abbrev rX5_finding : Room := { frames := 0, cells := 0, slots := 0, locals := 0 }
def pX5_finding (σ : Mx) (x1 : Int32) (Q : Int32 → Mx → Prop) : Prop := vp_in (((-1000001) - x1) + 1) 8 ∧ (vp_in (((-1000001) - x1) + 1) 8 ∧ (vp_in 0 8 ∧ (vp_in 0 8 ∧ (Q x1 (st (st σ 4 (((-1000001) - x1) + 1).toNatClampNeg ((σ 4 (((-1000001) - x1) + 1).toNatClampNeg) + 1)) 4 (0 : Int32).toNatClampNeg (((st σ 4 (((-1000001) - x1) + 1).toNatClampNeg ((σ 4 (((-1000001) - x1) + 1).toNatClampNeg) + 1)) 4 (0 : Int32).toNatClampNeg) + 1))))))
set_option maxHeartbeats 4000000 in
set_option maxRecDepth 100000 in
theorem mX5_finding (l : Launch) (D : va_G) (κ : Nat → ClassId) (τ : Nat → Nat) (a : Nat → Nat) {σ : Mx} {x1 : Int32} {Q : Int32 → Mx → Prop} (hIt : Ij a 13) (h : pX5_finding σ x1 Q) : Met l yX5_finding (wz yX5_finding cX5_finding 2 (some .int)) rX5_finding (va_Pc [.ref (a 0), .int x1] (PE D κ (fun H => va_P D classes (wMo κ τ a σ) H))) (QWi Q (fun u H => va_P D classes (wMo κ τ a u) H) (cA a 13)) 0 0 (cA a 13) := by
  refine Met_of l (own := RX5) (by decide) rfl (Nat.le_of_ble_eq_true rfl) (fun p e s m below meth c Cc hPP ls hl => ?_)
  obtain ⟨hx, hb, hml, hown, hts, hr, hlk, hE⟩ := id Cc
  have hl : lv_has ls 2 [(0, .ref (a 0)), (1, .int x1)] := hl
  have hPt := hPP
  have hS : va_S (cA a 13) s.heap s.heap [] := va_S.rf
  unfold pX5_finding at h
  refine lv_aload_n hx hb dX5_finding_0 rfl (lv_at hl 0 rfl) ?_
  refine gMo_4 Cc hPt (tw_765 hts) dX5_finding_1 ?_
  refine lv_ldc (own := RX5) (v := (-1000001)) hx hb hown (tw_842 hts) dX5_finding_4 ?_
  refine lv_iload_n hx hb dX5_finding_6 rfl (lv_at hl 1 rfl) ?_
  refine lv_isub hx hb dX5_finding_7 ?_
  refine lv_iconst (v := 1) hx hb dX5_finding_8 (by decide) ?_
  refine lv_iadd hx hb dX5_finding_9 ?_
  refine lv_dup2_11 hx hb dX5_finding_10 rfl rfl ?_
  refine lMo_4 Cc hPt h.1 dX5_finding_11 ?_
  have h := h.2
  refine lv_iconst (v := 1) hx hb dX5_finding_12 (by decide) ?_
  refine lv_iadd hx hb dX5_finding_13 ?_
  refine sMo_4 Cc hPt hIt hS ⟨4, by decide, rfl⟩ h.1 dX5_finding_14 (fun H1 locs1 hB hS1 hk => ?_)
  have h := h.2
  have hPt := hB
  have hS := hS1
  refine lv_aload_n hx hb dX5_finding_15 rfl (lv_at hl 0 rfl) ?_
  refine gMo_4 Cc hPt (tw_765 hts) dX5_finding_16 ?_
  refine lv_iconst (v := 0) hx hb dX5_finding_19 (by decide) ?_
  refine lv_dup2_11 hx hb dX5_finding_20 rfl rfl ?_
  refine lMo_4 Cc hPt h.1 dX5_finding_21 ?_
  have h := h.2
  refine lv_iconst (v := 1) hx hb dX5_finding_22 (by decide) ?_
  refine lv_iadd hx hb dX5_finding_23 ?_
  refine sMo_4 Cc hPt hIt hS ⟨4, by decide, rfl⟩ h.1 dX5_finding_24 (fun H1 locs1 hB hS1 hk => ?_)
  have h := h.2
  have hPt := hB
  have hS := hS1
  refine lv_iload_n hx hb dX5_finding_25 rfl (lv_at hl 1 rfl) ?_
  exact W.iret (v := x1) hx hb hr (fun t ht _ => QWi.mk (u := (st (st σ 4 (((-1000001) - x1) + 1).toNatClampNeg ((σ 4 (((-1000001) - x1) + 1).toNatClampNeg) + 1)) 4 (0 : Int32).toNatClampNeg (((st σ 4 (((-1000001) - x1) + 1).toNatClampNeg ((σ 4 (((-1000001) - x1) + 1).toNatClampNeg) + 1)) 4 (0 : Int32).toNatClampNeg) + 1))) h hPt hS ht) hS.2.2 dX5_finding_26 (hlocks := hlk)
theorem qX5_finding {R : Room} {s : State} {args : Array Value} {own : String} {idx : Nat} (hts : ∀ w ∈ gG, w.before args s = true) (hl : (Cond.methodLink own idx yX5_finding).before args s = true) (hR : rX5_finding.frames + 1 ≤ R.frames ∧ 8 + (2 + 11) + rX5_finding.locals ≤ R.locals) : CallW R s args own RX5 idx yX5_finding cX5_finding 2 (some .int) (wz yX5_finding cX5_finding 2 (some .int)) rX5_finding 0 0 1 := ⟨kw 1 hts mw_846 rfl rfl (tw_75 hts) hl (by decide +kernel) hR, tw_845 hts, tw_24 hts⟩
abbrev rX5_within : Room := { frames := 0, cells := 0, slots := 0, locals := 0 }
def pX5_within_15 (Q : Int32 → Prop) (y0 : Int32) : Prop := (y0 = 0 ∨ y0 = 1) ∧ (Q y0)
def pX5_within_14 (Q : Int32 → Prop)  : Prop := pX5_within_15 Q 0
def pX5_within  (x1 : Int32) (x2 : Int32) (x3 : Int32) (Q : Int32 → Prop) : Prop := (x1 < x2 → (pX5_within_14 Q )) ∧ (¬ x1 < x2 → ((x3 < x1 → (pX5_within_14 Q )) ∧ (¬ x3 < x1 → (pX5_within_15 Q 1))))
set_option maxHeartbeats 4000000 in
set_option maxRecDepth 100000 in
theorem bX5_within_15 {p : Program} {l : Launch} {e : Env} {s : State} {m : MethodId} {args : Array Value} {below : List Frame} {meth : Method} {c : Code} {D : va_G} {κ : Nat → ClassId}    {Q : Int32 → Prop} (Cc : Cx D κ RX5 cX5_within 3 (some .boolean) p s m args meth c)    : ∀ (y0 : Int32) (ls : Array Slot) (hl : lv_has ls 3 []) (h : pX5_within_15 Q y0), W p l e rX5_within s m args below meth c s.heap [] 0 0 (MQ below (RQ Q) args s 0 0 (fun _ => False)) (F0 m 15 ls [.int y0]) := by
  obtain ⟨hx, hb, hml, hown, hts, hr, hlk, hE⟩ := id Cc
  intro y0 ls hl h
  unfold pX5_within_15 at h
  exact W.zret (v := y0) (ty := .boolean) hx hb hr (bool_nar h.1) (fun t ht _ => RQ.mk h.2 ht) (fun _ h9 => by cases h9) dX5_within_15 (hlocks := hlk)
set_option maxHeartbeats 4000000 in
set_option maxRecDepth 100000 in
theorem bX5_within_14 {p : Program} {l : Launch} {e : Env} {s : State} {m : MethodId} {args : Array Value} {below : List Frame} {meth : Method} {c : Code} {D : va_G} {κ : Nat → ClassId}    {Q : Int32 → Prop} (Cc : Cx D κ RX5 cX5_within 3 (some .boolean) p s m args meth c)    : ∀ (ls : Array Slot) (hl : lv_has ls 3 []) (h : pX5_within_14 Q ), W p l e rX5_within s m args below meth c s.heap [] 0 0 (MQ below (RQ Q) args s 0 0 (fun _ => False)) (F0 m 14 ls []) := by
  obtain ⟨hx, hb, hml, hown, hts, hr, hlk, hE⟩ := id Cc
  intro ls hl h
  unfold pX5_within_14 at h
  refine lv_iconst (v := 0) hx hb dX5_within_14 (by decide) ?_
  exact bX5_within_15 Cc 0  _ (lv_sub hl [] rfl) h
set_option maxHeartbeats 4000000 in
set_option maxRecDepth 100000 in
theorem mX5_within (l : Launch) (D : va_G) (κ : Nat → ClassId)   {x1 : Int32} {x2 : Int32} {x3 : Int32} {Q : Int32 → Prop}  (h : pX5_within  x1 x2 x3 Q) : Met l yX5_within (wz yX5_within cX5_within 3 (some .boolean)) rX5_within (va_Pc [.int x1, .int x2, .int x3] (PE D κ (fun _ => True))) (RQ Q) 0 0 (fun _ => False) := by
  refine Met_of l (own := RX5) (by decide) rfl (Nat.le_of_ble_eq_true rfl) (fun p e s m below meth c Cc hPP ls hl => ?_)
  obtain ⟨hx, hb, hml, hown, hts, hr, hlk, hE⟩ := id Cc
  have hl : lv_has ls 3 [(0, .int x1), (1, .int x2), (2, .int x3)] := hl
  unfold pX5_within at h
  refine lv_iload_n hx hb dX5_within_0 rfl (lv_at hl 0 rfl) ?_
  refine lv_iload_n hx hb dX5_within_1 rfl (lv_at hl 1 rfl) ?_
  refine lv_icmp_lt (tgt := 14) hx hb dX5_within_2 (by decide) (fun c2 => ?_) (fun c2 => ?_)
  · have h := h.1 c2
    exact bX5_within_14 Cc   _ (lv_sub hl [] rfl) h
  · have h := h.2 c2
    refine lv_iload_n hx hb dX5_within_5 rfl (lv_at hl 0 rfl) ?_
    refine lv_iload_n hx hb dX5_within_6 rfl (lv_at hl 2 rfl) ?_
    refine lv_icmp_gt (tgt := 14) hx hb dX5_within_7 (by decide) (fun c7 => ?_) (fun c7 => ?_)
    · have h := h.1 c7
      exact bX5_within_14 Cc   _ (lv_sub hl [] rfl) h
    · have h := h.2 c7
      refine lv_iconst (v := 1) hx hb dX5_within_10 (by decide) ?_
      refine lv_goto (tgt := 15) hx hb dX5_within_11 (by decide) ?_
      exact bX5_within_15 Cc 1  _ (lv_sub hl [] rfl) h
theorem qX5_within {R : Room} {s : State} {args : Array Value} {own : String} {idx : Nat} (hts : ∀ w ∈ gG, w.before args s = true) (hl : (Cond.methodLink own idx yX5_within).before args s = true) (hR : rX5_within.frames + 1 ≤ R.frames ∧ 8 + (3 + 11) + rX5_within.locals ≤ R.locals) : CallB R s args own idx yX5_within cX5_within 3 (some .boolean) (wz yX5_within cX5_within 3 (some .boolean)) rX5_within 0 0 3 ∧ (Cond.static yX5_within).before args s = true := ⟨kw 3 hts mw_834 rfl rfl (tw_75 hts) hl (by decide +kernel) hR, tw_833 hts⟩
abbrev rX5_become : Room := { frames := 0, cells := 0, slots := 0, locals := 0 }
def pX5_become (σ : Mx) (x1 : Int32) (x2 : Int32) (Q : Int32 → Mx → Prop) : Prop := vp_in x1 67 ∧ (∀ v6 : Int32, v6 = (σ 0 x1.toNatClampNeg) → (vp_in x1 67 ∧ (Q v6 (st σ 0 x1.toNatClampNeg x2))))
set_option maxHeartbeats 4000000 in
set_option maxRecDepth 100000 in
theorem mX5_become (l : Launch) (D : va_G) (κ : Nat → ClassId) (τ : Nat → Nat) (a : Nat → Nat) {σ : Mx} {x1 : Int32} {x2 : Int32} {Q : Int32 → Mx → Prop} (hIt : Ij a 13) (h : pX5_become σ x1 x2 Q) : Met l yX5_become (wz yX5_become cX5_become 4 (some .int)) rX5_become (va_Pc [.ref (a 0), .int x1, .int x2] (PE D κ (fun H => va_P D classes (wMo κ τ a σ) H))) (QWi Q (fun u H => va_P D classes (wMo κ τ a u) H) (cA a 13)) 0 0 (cA a 13) := by
  refine Met_of l (own := RX5) (by decide) rfl (Nat.le_of_ble_eq_true rfl) (fun p e s m below meth c Cc hPP ls hl => ?_)
  obtain ⟨hx, hb, hml, hown, hts, hr, hlk, hE⟩ := id Cc
  have hl : lv_has ls 4 [(0, .ref (a 0)), (1, .int x1), (2, .int x2)] := hl
  have hPt := hPP
  have hS : va_S (cA a 13) s.heap s.heap [] := va_S.rf
  unfold pX5_become at h
  refine lv_aload_n hx hb dX5_become_0 rfl (lv_at hl 0 rfl) ?_
  refine gMo_0 Cc hPt (tw_761 hts) dX5_become_1 ?_
  refine lv_iload_n hx hb dX5_become_4 rfl (lv_at hl 1 rfl) ?_
  refine lMo_0 Cc hPt h.1 dX5_become_5 ?_
  have h := h.2
  refine lv_topi (fun v6 e6 => ?_)
  have h := h v6 e6
  refine lv_istore_n (lv' := [(3, .int v6), (0, .ref (a 0)), (1, .int x1), (2, .int x2)]) hx hb dX5_become_6 rfl hl (by decide) rfl (fun ls hl => ?_)
  refine lv_aload_n hx hb dX5_become_7 rfl (lv_at hl 1 rfl) ?_
  refine gMo_0 Cc hPt (tw_761 hts) dX5_become_8 ?_
  refine lv_iload_n hx hb dX5_become_11 rfl (lv_at hl 2 rfl) ?_
  refine lv_iload_n hx hb dX5_become_12 rfl (lv_at hl 3 rfl) ?_
  refine sMo_0 Cc hPt hIt hS ⟨1, by decide, rfl⟩ h.1 dX5_become_13 (fun H1 locs1 hB hS1 hk => ?_)
  have h := h.2
  have hPt := hB
  have hS := hS1
  refine lv_iload_n hx hb dX5_become_14 rfl (lv_at hl 0 rfl) ?_
  exact W.iret (v := v6) hx hb hr (fun t ht _ => QWi.mk (u := (st σ 0 x1.toNatClampNeg x2)) h hPt hS ht) hS.2.2 dX5_become_15 (hlocks := hlk)
theorem qX5_become {R : Room} {s : State} {args : Array Value} {own : String} {idx : Nat} (hts : ∀ w ∈ gG, w.before args s = true) (hl : (Cond.methodLink own idx yX5_become).before args s = true) (hR : rX5_become.frames + 1 ≤ R.frames ∧ 8 + (4 + 11) + rX5_become.locals ≤ R.locals) : CallW R s args own RX5 idx yX5_become cX5_become 4 (some .int) (wz yX5_become cX5_become 4 (some .int)) rX5_become 0 0 2 := ⟨kw 2 hts mw_841 rfl rfl (tw_75 hts) hl (by decide +kernel) hR, tw_840 hts, tw_23 hts⟩
abbrev rX5_putBack : Room := { frames := 1, cells := 0, slots := 0, locals := 22 }
def pX5_putBack (σ : Mx) (x1 : Int32) (Q : Int32 → Mx → Prop) : Prop := pX5_copyRow_20 σ (fun u8 => (Q x1 u8))
set_option maxHeartbeats 4000000 in
set_option maxRecDepth 100000 in
theorem mX5_putBack (l : Launch) (D : va_G) (κ : Nat → ClassId) (τ : Nat → Nat) (a : Nat → Nat) {σ : Mx} {x1 : Int32} {Q : Int32 → Mx → Prop} (hIt : Ij a 13) (h : pX5_putBack σ x1 Q) : Met l yX5_putBack (wz yX5_putBack cX5_putBack 2 (some .int)) rX5_putBack (va_Pc [.ref (a 0), .int x1] (PE D κ (fun H => va_P D classes (wMo κ τ a σ) H))) (QWi Q (fun u H => va_P D classes (wMo κ τ a u) H) (cA a 13)) 0 0 (cA a 13) := by
  refine Met_of l (own := RX5) (by decide) rfl (Nat.le_of_ble_eq_true rfl) (fun p e s m below meth c Cc hPP ls hl => ?_)
  obtain ⟨hx, hb, hml, hown, hts, hr, hlk, hE⟩ := id Cc
  have hl : lv_has ls 2 [(0, .ref (a 0)), (1, .int x1)] := hl
  have hPt := hPP
  have hS : va_S (cA a 13) s.heap s.heap [] := va_S.rf
  unfold pX5_putBack at h
  refine lv_aload_n hx hb dX5_putBack_0 rfl (lv_at hl 0 rfl) ?_
  refine gMo_2 Cc hPt (tw_763 hts) dX5_putBack_1 ?_
  refine lv_aload_n hx hb dX5_putBack_4 rfl (lv_at hl 0 rfl) ?_
  refine gMo_0 Cc hPt (tw_761 hts) dX5_putBack_5 ?_
  refine kWv (kS Cc (mX5_copyRow_20 l D κ τ a hIt h) (qX5_copyRow_20 hts (tw_1014 hts) ⟨(Nat.le_of_ble_eq_true rfl), (Nat.le_of_ble_eq_true rfl)⟩) (rest := []) hPt rfl hl.1 rfl (Nat.le_of_ble_eq_true rfl) dX5_putBack_8 ⟨Nat.zero_le _, Nat.zero_le _⟩) hS (fun q h9 => h9) (fun  u8 H1 locs1 h hB hk hS1 => ?_)
  have hPt := hB
  have hS := hS1
  refine lv_iload_n hx hb dX5_putBack_11 rfl (lv_at hl 1 rfl) ?_
  exact W.iret (v := x1) hx hb hr (fun t ht _ => QWi.mk (u := u8) h hPt hS ht) hS.2.2 dX5_putBack_12 (hlocks := hlk)
theorem qX5_putBack {R : Room} {s : State} {args : Array Value} {own : String} {idx : Nat} (hts : ∀ w ∈ gG, w.before args s = true) (hl : (Cond.methodLink own idx yX5_putBack).before args s = true) (hR : rX5_putBack.frames + 1 ≤ R.frames ∧ 8 + (2 + 11) + rX5_putBack.locals ≤ R.locals) : CallW R s args own RX5 idx yX5_putBack cX5_putBack 2 (some .int) (wz yX5_putBack cX5_putBack 2 (some .int)) rX5_putBack 0 0 1 := ⟨kw 1 hts mw_1020 rfl rfl (tw_75 hts) hl (by decide +kernel) hR, tw_1019 hts, tw_51 hts⟩
abbrev rX5_orNone : Room := { frames := 1, cells := 0, slots := 0, locals := 21 }
def pX5_orNone_14 (Q : Int32 → Mx → Prop) (y0 : Int32) (σ : Mx) : Prop := Q y0 σ
def pX5_orNone (σ : Mx) (x1 : Int32) (Q : Int32 → Mx → Prop) : Prop := (0 ≤ x1 → (pX5_orNone_14 Q x1 σ)) ∧ (¬ 0 ≤ x1 → (pX5_finding σ (-1000004) (fun r7 u7 => (pX5_orNone_14 Q r7 u7))))
set_option maxHeartbeats 4000000 in
set_option maxRecDepth 100000 in
theorem bX5_orNone_14 {p : Program} {l : Launch} {e : Env} {s : State} {m : MethodId} {args : Array Value} {below : List Frame} {meth : Method} {c : Code} {D : va_G} {κ : Nat → ClassId} {τ : Nat → Nat} {a : Nat → Nat}   {Q : Int32 → Mx → Prop} (Cc : Cx D κ RX5 cX5_orNone 2 (some .int) p s m args meth c) (hIt : Ij a 13)   : ∀ (y0 : Int32) (σ : Mx) (H : Heap) (locs : List Loc) (hPt : va_P D classes (wMo κ τ a σ) H) (hS : va_S (cA a 13) s.heap H locs) (ls : Array Slot) (hl : lv_has ls 2 []) (h : pX5_orNone_14 Q y0 σ), W p l e rX5_orNone s m args below meth c H locs 0 0 (MQ below (QWi Q (fun u H => va_P D classes (wMo κ τ a u) H) (cA a 13)) args s 0 0 (cA a 13)) (F0 m 14 ls [.int y0]) := by
  obtain ⟨hx, hb, hml, hown, hts, hr, hlk, hE⟩ := id Cc
  intro y0 σ H locs hPt hS ls hl h
  unfold pX5_orNone_14 at h
  exact W.iret (v := y0) hx hb hr (fun t ht _ => QWi.mk (u := σ) h hPt hS ht) hS.2.2 dX5_orNone_14 (hlocks := hlk)
set_option maxHeartbeats 4000000 in
set_option maxRecDepth 100000 in
theorem mX5_orNone (l : Launch) (D : va_G) (κ : Nat → ClassId) (τ : Nat → Nat) (a : Nat → Nat) {σ : Mx} {x1 : Int32} {Q : Int32 → Mx → Prop} (hIt : Ij a 13) (h : pX5_orNone σ x1 Q) : Met l yX5_orNone (wz yX5_orNone cX5_orNone 2 (some .int)) rX5_orNone (va_Pc [.ref (a 0), .int x1] (PE D κ (fun H => va_P D classes (wMo κ τ a σ) H))) (QWi Q (fun u H => va_P D classes (wMo κ τ a u) H) (cA a 13)) 0 0 (cA a 13) := by
  refine Met_of l (own := RX5) (by decide) rfl (Nat.le_of_ble_eq_true rfl) (fun p e s m below meth c Cc hPP ls hl => ?_)
  obtain ⟨hx, hb, hml, hown, hts, hr, hlk, hE⟩ := id Cc
  have hl : lv_has ls 2 [(0, .ref (a 0)), (1, .int x1)] := hl
  have hPt := hPP
  have hS : va_S (cA a 13) s.heap s.heap [] := va_S.rf
  unfold pX5_orNone at h
  refine lv_iload_n hx hb dX5_orNone_0 rfl (lv_at hl 1 rfl) ?_
  refine lv_if_ge (tgt := 13) hx hb dX5_orNone_1 (by decide) (fun c1 => ?_) (fun c1 => ?_)
  · have h := h.1 c1
    refine lv_iload_n hx hb dX5_orNone_13 rfl (lv_at hl 1 rfl) ?_
    exact bX5_orNone_14 Cc hIt x1 σ _ _ hPt hS _ (lv_sub hl [] rfl) h
  · have h := h.2 c1
    refine lv_aload_n hx hb dX5_orNone_4 rfl (lv_at hl 0 rfl) ?_
    refine lv_ldc (own := RX5) (v := (-1000004)) hx hb hown (tw_1033 hts) dX5_orNone_5 ?_
    refine kWi (kV Cc (mX5_finding l D κ τ a hIt h) (qX5_finding hts (tw_843 hts) ⟨(Nat.le_of_ble_eq_true rfl), (Nat.le_of_ble_eq_true rfl)⟩) (va_recv hE.1 hPt (ci := 5) (q0 := 0) rfl rfl) (rest := []) hPt rfl hl.1 rfl (Nat.le_of_ble_eq_true rfl) dX5_orNone_7 ⟨Nat.zero_le _, Nat.zero_le _⟩) hS (fun q h9 => h9) (fun r7 u7 H1 locs1 h hB hk hS1 => ?_)
    have hPt := hB
    have hS := hS1
    refine lv_goto (tgt := 14) hx hb dX5_orNone_10 (by decide) ?_
    exact bX5_orNone_14 Cc hIt r7 u7 _ _ hPt hS _ (lv_sub hl [] rfl) h
theorem qX5_orNone {R : Room} {s : State} {args : Array Value} {own : String} {idx : Nat} (hts : ∀ w ∈ gG, w.before args s = true) (hl : (Cond.methodLink own idx yX5_orNone).before args s = true) (hR : rX5_orNone.frames + 1 ≤ R.frames ∧ 8 + (2 + 11) + rX5_orNone.locals ≤ R.locals) : CallW R s args own RX5 idx yX5_orNone cX5_orNone 2 (some .int) (wz yX5_orNone cX5_orNone 2 (some .int)) rX5_orNone 0 0 1 := ⟨kw 1 hts mw_1032 rfl rfl (tw_75 hts) hl (by decide +kernel) hR, tw_1031 hts, tw_52 hts⟩
abbrev rX5_bits : Room := { frames := 0, cells := 0, slots := 0, locals := 0 }
def pX5_bits_4s  (ih4 : Int32 → Int32 → Prop) (Q : Int32 → Prop) (x1 : Int32) (x2 : Int32) : Prop := (x2 = 0 → (Q x1)) ∧ (¬ x2 = 0 → (∀ v16 : Int32, v16 = (x2 &&& (x2 - 1)) → (ih4 (x1 + 1) v16)))
noncomputable def pX5_bits_4 (Q : Int32 → Prop) (n : Nat) : Int32 → Int32 → Prop := Nat.rec (motive := fun _ => Int32 → Int32 → Prop) (fun _ _ => False) (fun _ ih => pX5_bits_4s ih Q) n
def pX5_bits  (x1 : Int32) (Q : Int32 → Prop) : Prop := ∃ n, pX5_bits_4 Q n 0 x1
set_option maxHeartbeats 4000000 in
set_option maxRecDepth 100000 in
theorem bX5_bits_4 {p : Program} {l : Launch} {e : Env} {s : State} {m : MethodId} {args : Array Value} {below : List Frame} {meth : Method} {c : Code} {D : va_G} {κ : Nat → ClassId}    {Q : Int32 → Prop} (Cc : Cx D κ RX5 cX5_bits 3 (some .int) p s m args meth c)    (n : Nat) : ∀ (x1 : Int32) (x2 : Int32) (ls : Array Slot) (hl : lv_has ls 3 [(1, .int x1), (2, .int x2)]) (h : pX5_bits_4 Q n x1 x2), W p l e rX5_bits s m args below meth c s.heap [] 0 0 (MQ below (RQ Q) args s 0 0 (fun _ => False)) (F0 m 4 ls []) := by
  obtain ⟨hx, hb, hml, hown, hts, hr, hlk, hE⟩ := id Cc
  induction n with
  | zero =>
    intro x1 x2 ls hl h
    exact absurd h (fun z => z)
  | succ n hih4 =>
    intro x1 x2 ls hl h
    have h : pX5_bits_4s (pX5_bits_4 Q n) Q x1 x2 := h
    unfold pX5_bits_4s at h
    refine lv_iload_n hx hb dX5_bits_4 rfl (lv_at hl 1 rfl) ?_
    refine lv_if_eq (tgt := 20) hx hb dX5_bits_5 (by decide) (fun c5 => ?_) (fun c5 => ?_)
    · have h := h.1 c5
      refine lv_iload_n hx hb dX5_bits_20 rfl (lv_at hl 0 rfl) ?_
      exact W.iret (v := x1) hx hb hr (fun t ht _ => RQ.mk h ht) (fun _ h9 => by cases h9) dX5_bits_21 (hlocks := hlk)
    · have h := h.2 c5
      refine lv_iinc (v := (x1 + 1)) (lv' := [(1, .int (x1 + 1)), (2, .int x2)]) hx hb dX5_bits_8 hl (k := 0) rfl rfl (by decide) rfl (fun ls hl => ?_)
      refine lv_iload_n hx hb dX5_bits_11 rfl (lv_at hl 1 rfl) ?_
      refine lv_iload_n hx hb dX5_bits_12 rfl (lv_at hl 1 rfl) ?_
      refine lv_iconst (v := 1) hx hb dX5_bits_13 (by decide) ?_
      refine lv_isub hx hb dX5_bits_14 ?_
      refine lv_iand hx hb dX5_bits_15 ?_
      refine lv_topi (fun v16 e16 => ?_)
      have h := h v16 e16
      refine lv_istore_n (lv' := [(2, .int v16), (1, .int (x1 + 1))]) hx hb dX5_bits_16 rfl hl (by decide) rfl (fun ls hl => ?_)
      refine lv_goto (tgt := 4) hx hb dX5_bits_17 (by decide) ?_
      exact hih4 (x1 + 1) v16  _ (lv_sub hl [1, 0] rfl) h
set_option maxHeartbeats 4000000 in
set_option maxRecDepth 100000 in
theorem mX5_bits (l : Launch) (D : va_G) (κ : Nat → ClassId)   {x1 : Int32} {Q : Int32 → Prop}  (h : pX5_bits  x1 Q) : Met l yX5_bits (wz yX5_bits cX5_bits 3 (some .int)) rX5_bits (va_Pc [.int x1] (PE D κ (fun _ => True))) (RQ Q) 0 0 (fun _ => False) := by
  refine Met_of l (own := RX5) (by decide) rfl (Nat.le_of_ble_eq_true rfl) (fun p e s m below meth c Cc hPP ls hl => ?_)
  obtain ⟨hx, hb, hml, hown, hts, hr, hlk, hE⟩ := id Cc
  have hl : lv_has ls 3 [(0, .int x1)] := hl
  unfold pX5_bits at h
  refine lv_iconst (v := 0) hx hb dX5_bits_0 (by decide) ?_
  refine lv_istore_n (lv' := [(1, .int 0), (0, .int x1)]) hx hb dX5_bits_1 rfl hl (by decide) rfl (fun ls hl => ?_)
  refine lv_iload_n hx hb dX5_bits_2 rfl (lv_at hl 1 rfl) ?_
  refine lv_istore_n (lv' := [(2, .int x1), (1, .int 0), (0, .int x1)]) hx hb dX5_bits_3 rfl hl (by decide) rfl (fun ls hl => ?_)
  obtain ⟨n, h⟩ := h
  exact bX5_bits_4 Cc n 0 x1  _ (lv_sub hl [1, 0] rfl) h
theorem qX5_bits {R : Room} {s : State} {args : Array Value} {own : String} {idx : Nat} (hts : ∀ w ∈ gG, w.before args s = true) (hl : (Cond.methodLink own idx yX5_bits).before args s = true) (hR : rX5_bits.frames + 1 ≤ R.frames ∧ 8 + (3 + 11) + rX5_bits.locals ≤ R.locals) : CallB R s args own idx yX5_bits cX5_bits 3 (some .int) (wz yX5_bits cX5_bits 3 (some .int)) rX5_bits 0 0 1 ∧ (Cond.static yX5_bits).before args s = true := ⟨kw 1 hts mw_1072 rfl rfl (tw_75 hts) hl (by decide +kernel) hR, tw_1071 hts⟩
abbrev rX5_isOne : Room := { frames := 1, cells := 0, slots := 0, locals := 22 }
def pX5_isOne  (x1 : Int32) (Q : Int32 → Prop) : Prop := pX5_within x1 0 7 (fun r4 => ((r4 = 0 ∨ r4 = 1) ∧ (Q r4)))
set_option maxHeartbeats 4000000 in
set_option maxRecDepth 100000 in
theorem mX5_isOne (l : Launch) (D : va_G) (κ : Nat → ClassId)   {x1 : Int32} {Q : Int32 → Prop}  (h : pX5_isOne  x1 Q) : Met l yX5_isOne (wz yX5_isOne cX5_isOne 1 (some .boolean)) rX5_isOne (va_Pc [.int x1] (PE D κ (fun _ => True))) (RQ Q) 0 0 (fun _ => False) := by
  refine Met_of l (own := RX5) (by decide) rfl (Nat.le_of_ble_eq_true rfl) (fun p e s m below meth c Cc hPP ls hl => ?_)
  obtain ⟨hx, hb, hml, hown, hts, hr, hlk, hE⟩ := id Cc
  have hl : lv_has ls 1 [(0, .int x1)] := hl
  unfold pX5_isOne at h
  refine lv_iload_n hx hb dX5_isOne_0 rfl (lv_at hl 0 rfl) ?_
  refine lv_iconst (v := 0) hx hb dX5_isOne_1 (by decide) ?_
  refine lv_bipush (v := 7) hx hb dX5_isOne_2 (by decide) ?_
  refine kR (kS Cc (mX5_within l D κ h) (qX5_within hts (tw_832 hts) ⟨(Nat.le_of_ble_eq_true rfl), (Nat.le_of_ble_eq_true rfl)⟩) (rest := []) trivial rfl hl.1 rfl (Nat.le_of_ble_eq_true rfl) dX5_isOne_4 ⟨Nat.zero_le _, Nat.zero_le _⟩) (fun r4 h => ?_)
  exact W.zret (v := r4) (ty := .boolean) hx hb hr (bool_nar h.1) (fun t ht _ => RQ.mk h.2 ht) (fun _ h9 => by cases h9) dX5_isOne_7 (hlocks := hlk)
theorem qX5_isOne {R : Room} {s : State} {args : Array Value} {own : String} {idx : Nat} (hts : ∀ w ∈ gG, w.before args s = true) (hl : (Cond.methodLink own idx yX5_isOne).before args s = true) (hR : rX5_isOne.frames + 1 ≤ R.frames ∧ 8 + (1 + 11) + rX5_isOne.locals ≤ R.locals) : CallB R s args own idx yX5_isOne cX5_isOne 1 (some .boolean) (wz yX5_isOne cX5_isOne 1 (some .boolean)) rX5_isOne 0 0 1 ∧ (Cond.static yX5_isOne).before args s = true := ⟨kw 1 hts mw_837 rfl rfl (tw_75 hts) hl (by decide +kernel) hR, tw_836 hts⟩
abbrev rX5_isEdge : Room := { frames := 1, cells := 0, slots := 0, locals := 22 }
def pX5_isEdge  (x1 : Int32) (Q : Int32 → Prop) : Prop := pX5_within x1 0 9 (fun r4 => ((r4 = 0 ∨ r4 = 1) ∧ (Q r4)))
set_option maxHeartbeats 4000000 in
set_option maxRecDepth 100000 in
theorem mX5_isEdge (l : Launch) (D : va_G) (κ : Nat → ClassId)   {x1 : Int32} {Q : Int32 → Prop}  (h : pX5_isEdge  x1 Q) : Met l yX5_isEdge (wz yX5_isEdge cX5_isEdge 1 (some .boolean)) rX5_isEdge (va_Pc [.int x1] (PE D κ (fun _ => True))) (RQ Q) 0 0 (fun _ => False) := by
  refine Met_of l (own := RX5) (by decide) rfl (Nat.le_of_ble_eq_true rfl) (fun p e s m below meth c Cc hPP ls hl => ?_)
  obtain ⟨hx, hb, hml, hown, hts, hr, hlk, hE⟩ := id Cc
  have hl : lv_has ls 1 [(0, .int x1)] := hl
  unfold pX5_isEdge at h
  refine lv_iload_n hx hb dX5_isEdge_0 rfl (lv_at hl 0 rfl) ?_
  refine lv_iconst (v := 0) hx hb dX5_isEdge_1 (by decide) ?_
  refine lv_bipush (v := 9) hx hb dX5_isEdge_2 (by decide) ?_
  refine kR (kS Cc (mX5_within l D κ h) (qX5_within hts (tw_832 hts) ⟨(Nat.le_of_ble_eq_true rfl), (Nat.le_of_ble_eq_true rfl)⟩) (rest := []) trivial rfl hl.1 rfl (Nat.le_of_ble_eq_true rfl) dX5_isEdge_4 ⟨Nat.zero_le _, Nat.zero_le _⟩) (fun r4 h => ?_)
  exact W.zret (v := r4) (ty := .boolean) hx hb hr (bool_nar h.1) (fun t ht _ => RQ.mk h.2 ht) (fun _ h9 => by cases h9) dX5_isEdge_7 (hlocks := hlk)
theorem qX5_isEdge {R : Room} {s : State} {args : Array Value} {own : String} {idx : Nat} (hts : ∀ w ∈ gG, w.before args s = true) (hl : (Cond.methodLink own idx yX5_isEdge).before args s = true) (hR : rX5_isEdge.frames + 1 ≤ R.frames ∧ 8 + (1 + 11) + rX5_isEdge.locals ≤ R.locals) : CallB R s args own idx yX5_isEdge cX5_isEdge 1 (some .boolean) (wz yX5_isEdge cX5_isEdge 1 (some .boolean)) rX5_isEdge 0 0 1 ∧ (Cond.static yX5_isEdge).before args s = true := ⟨kw 1 hts mw_860 rfl rfl (tw_75 hts) hl (by decide +kernel) hR, tw_859 hts⟩
abbrev rX5_isPlace : Room := { frames := 1, cells := 0, slots := 0, locals := 22 }
def pX5_isPlace  (x1 : Int32) (Q : Int32 → Prop) : Prop := pX5_within x1 0 5 (fun r3 => ((r3 = 0 ∨ r3 = 1) ∧ (Q r3)))
set_option maxHeartbeats 4000000 in
set_option maxRecDepth 100000 in
theorem mX5_isPlace (l : Launch) (D : va_G) (κ : Nat → ClassId)   {x1 : Int32} {Q : Int32 → Prop}  (h : pX5_isPlace  x1 Q) : Met l yX5_isPlace (wz yX5_isPlace cX5_isPlace 1 (some .boolean)) rX5_isPlace (va_Pc [.int x1] (PE D κ (fun _ => True))) (RQ Q) 0 0 (fun _ => False) := by
  refine Met_of l (own := RX5) (by decide) rfl (Nat.le_of_ble_eq_true rfl) (fun p e s m below meth c Cc hPP ls hl => ?_)
  obtain ⟨hx, hb, hml, hown, hts, hr, hlk, hE⟩ := id Cc
  have hl : lv_has ls 1 [(0, .int x1)] := hl
  unfold pX5_isPlace at h
  refine lv_iload_n hx hb dX5_isPlace_0 rfl (lv_at hl 0 rfl) ?_
  refine lv_iconst (v := 0) hx hb dX5_isPlace_1 (by decide) ?_
  refine lv_iconst (v := 5) hx hb dX5_isPlace_2 (by decide) ?_
  refine kR (kS Cc (mX5_within l D κ h) (qX5_within hts (tw_832 hts) ⟨(Nat.le_of_ble_eq_true rfl), (Nat.le_of_ble_eq_true rfl)⟩) (rest := []) trivial rfl hl.1 rfl (Nat.le_of_ble_eq_true rfl) dX5_isPlace_3 ⟨Nat.zero_le _, Nat.zero_le _⟩) (fun r3 h => ?_)
  exact W.zret (v := r3) (ty := .boolean) hx hb hr (bool_nar h.1) (fun t ht _ => RQ.mk h.2 ht) (fun _ h9 => by cases h9) dX5_isPlace_6 (hlocks := hlk)
theorem qX5_isPlace {R : Room} {s : State} {args : Array Value} {own : String} {idx : Nat} (hts : ∀ w ∈ gG, w.before args s = true) (hl : (Cond.methodLink own idx yX5_isPlace).before args s = true) (hR : rX5_isPlace.frames + 1 ≤ R.frames ∧ 8 + (1 + 11) + rX5_isPlace.locals ≤ R.locals) : CallB R s args own idx yX5_isPlace cX5_isPlace 1 (some .boolean) (wz yX5_isPlace cX5_isPlace 1 (some .boolean)) rX5_isPlace 0 0 1 ∧ (Cond.static yX5_isPlace).before args s = true := ⟨kw 1 hts mw_831 rfl rfl (tw_75 hts) hl (by decide +kernel) hR, tw_830 hts⟩
abbrev rX5_list : Room := { frames := 2, cells := 0, slots := 0, locals := 42 }
def pX5_list_43 (Q : Int32 → Mx → Prop) (y0 : Int32) (σ : Mx) : Prop := Q y0 σ
def pX5_list_37 (Q : Int32 → Mx → Prop) (σ : Mx) : Prop := pX5_finding σ (-1000001) (fun r40 u40 => (pX5_list_43 Q r40 u40))
def pX5_list (σ : Mx) (x1 : Int32) (x2 : Int32) (x3 : Int32) (Q : Int32 → Mx → Prop) : Prop := pX5_isPlace x1 (fun r1 => ((r1 = 0 → (pX5_list_37 Q σ)) ∧ (¬ r1 = 0 → (pX5_isOne x2 (fun r8 => ((r8 = 0 → (pX5_list_37 Q σ)) ∧ (¬ r8 = 0 → (pX5_isOne x3 (fun r15 => ((r15 = 0 → (pX5_list_37 Q σ)) ∧ (¬ r15 = 0 → (pX5_become σ (3 + x1) ((10 * x2) + x3) (fun r31 u31 => (pX5_list_43 Q r31 u31))))))))))))))
set_option maxHeartbeats 4000000 in
set_option maxRecDepth 100000 in
theorem bX5_list_43 {p : Program} {l : Launch} {e : Env} {s : State} {m : MethodId} {args : Array Value} {below : List Frame} {meth : Method} {c : Code} {D : va_G} {κ : Nat → ClassId} {τ : Nat → Nat} {a : Nat → Nat}   {Q : Int32 → Mx → Prop} (Cc : Cx D κ RX5 cX5_list 4 (some .int) p s m args meth c) (hIt : Ij a 13)   : ∀ (y0 : Int32) (σ : Mx) (H : Heap) (locs : List Loc) (hPt : va_P D classes (wMo κ τ a σ) H) (hS : va_S (cA a 13) s.heap H locs) (ls : Array Slot) (hl : lv_has ls 4 []) (h : pX5_list_43 Q y0 σ), W p l e rX5_list s m args below meth c H locs 0 0 (MQ below (QWi Q (fun u H => va_P D classes (wMo κ τ a u) H) (cA a 13)) args s 0 0 (cA a 13)) (F0 m 43 ls [.int y0]) := by
  obtain ⟨hx, hb, hml, hown, hts, hr, hlk, hE⟩ := id Cc
  intro y0 σ H locs hPt hS ls hl h
  unfold pX5_list_43 at h
  exact W.iret (v := y0) hx hb hr (fun t ht _ => QWi.mk (u := σ) h hPt hS ht) hS.2.2 dX5_list_43 (hlocks := hlk)
set_option maxHeartbeats 4000000 in
set_option maxRecDepth 100000 in
theorem bX5_list_37 {p : Program} {l : Launch} {e : Env} {s : State} {m : MethodId} {args : Array Value} {below : List Frame} {meth : Method} {c : Code} {D : va_G} {κ : Nat → ClassId} {τ : Nat → Nat} {a : Nat → Nat}   {Q : Int32 → Mx → Prop} (Cc : Cx D κ RX5 cX5_list 4 (some .int) p s m args meth c) (hIt : Ij a 13)   : ∀ (σ : Mx) (H : Heap) (locs : List Loc) (hPt : va_P D classes (wMo κ τ a σ) H) (hS : va_S (cA a 13) s.heap H locs) (ls : Array Slot) (hl : lv_has ls 4 [(0, .ref (a 0))]) (h : pX5_list_37 Q σ), W p l e rX5_list s m args below meth c H locs 0 0 (MQ below (QWi Q (fun u H => va_P D classes (wMo κ τ a u) H) (cA a 13)) args s 0 0 (cA a 13)) (F0 m 37 ls []) := by
  obtain ⟨hx, hb, hml, hown, hts, hr, hlk, hE⟩ := id Cc
  intro σ H locs hPt hS ls hl h
  unfold pX5_list_37 at h
  refine lv_aload_n hx hb dX5_list_37 rfl (lv_at hl 0 rfl) ?_
  refine lv_ldc (own := RX5) (v := (-1000001)) hx hb hown (tw_842 hts) dX5_list_38 ?_
  refine kWi (kV Cc (mX5_finding l D κ τ a hIt h) (qX5_finding hts (tw_843 hts) ⟨(Nat.le_of_ble_eq_true rfl), (Nat.le_of_ble_eq_true rfl)⟩) (va_recv hE.1 hPt (ci := 5) (q0 := 0) rfl rfl) (rest := []) hPt rfl hl.1 rfl (Nat.le_of_ble_eq_true rfl) dX5_list_40 ⟨Nat.zero_le _, Nat.zero_le _⟩) hS (fun q h9 => h9) (fun r40 u40 H1 locs1 h hB hk hS1 => ?_)
  have hPt := hB
  have hS := hS1
  exact bX5_list_43 Cc hIt r40 u40 _ _ hPt hS _ (lv_sub hl [] rfl) h
set_option maxHeartbeats 4000000 in
set_option maxRecDepth 100000 in
theorem mX5_list (l : Launch) (D : va_G) (κ : Nat → ClassId) (τ : Nat → Nat) (a : Nat → Nat) {σ : Mx} {x1 : Int32} {x2 : Int32} {x3 : Int32} {Q : Int32 → Mx → Prop} (hIt : Ij a 13) (h : pX5_list σ x1 x2 x3 Q) : Met l yX5_list (wz yX5_list cX5_list 4 (some .int)) rX5_list (va_Pc [.ref (a 0), .int x1, .int x2, .int x3] (PE D κ (fun H => va_P D classes (wMo κ τ a σ) H))) (QWi Q (fun u H => va_P D classes (wMo κ τ a u) H) (cA a 13)) 0 0 (cA a 13) := by
  refine Met_of l (own := RX5) (by decide) rfl (Nat.le_of_ble_eq_true rfl) (fun p e s m below meth c Cc hPP ls hl => ?_)
  obtain ⟨hx, hb, hml, hown, hts, hr, hlk, hE⟩ := id Cc
  have hl : lv_has ls 4 [(0, .ref (a 0)), (1, .int x1), (2, .int x2), (3, .int x3)] := hl
  have hPt := hPP
  have hS : va_S (cA a 13) s.heap s.heap [] := va_S.rf
  unfold pX5_list at h
  refine lv_iload_n hx hb dX5_list_0 rfl (lv_at hl 1 rfl) ?_
  refine kR (kS Cc (mX5_isPlace l D κ h) (qX5_isPlace hts (tw_829 hts) ⟨(Nat.le_of_ble_eq_true rfl), (Nat.le_of_ble_eq_true rfl)⟩) (rest := []) trivial rfl hl.1 rfl (Nat.le_of_ble_eq_true rfl) dX5_list_1 ⟨Nat.zero_le _, Nat.zero_le _⟩) (fun r1 h => ?_)
  refine lv_if_eq (tgt := 37) hx hb dX5_list_4 (by decide) (fun c4 => ?_) (fun c4 => ?_)
  · have h := h.1 c4
    exact bX5_list_37 Cc hIt σ _ _ hPt hS _ (lv_sub hl [0] rfl) h
  · have h := h.2 c4
    refine lv_iload_n hx hb dX5_list_7 rfl (lv_at hl 2 rfl) ?_
    refine kR (kS Cc (mX5_isOne l D κ h) (qX5_isOne hts (tw_835 hts) ⟨(Nat.le_of_ble_eq_true rfl), (Nat.le_of_ble_eq_true rfl)⟩) (rest := []) trivial rfl hl.1 rfl (Nat.le_of_ble_eq_true rfl) dX5_list_8 ⟨Nat.zero_le _, Nat.zero_le _⟩) (fun r8 h => ?_)
    refine lv_if_eq (tgt := 37) hx hb dX5_list_11 (by decide) (fun c11 => ?_) (fun c11 => ?_)
    · have h := h.1 c11
      exact bX5_list_37 Cc hIt σ _ _ hPt hS _ (lv_sub hl [0] rfl) h
    · have h := h.2 c11
      refine lv_iload_n hx hb dX5_list_14 rfl (lv_at hl 3 rfl) ?_
      refine kR (kS Cc (mX5_isOne l D κ h) (qX5_isOne hts (tw_835 hts) ⟨(Nat.le_of_ble_eq_true rfl), (Nat.le_of_ble_eq_true rfl)⟩) (rest := []) trivial rfl hl.1 rfl (Nat.le_of_ble_eq_true rfl) dX5_list_15 ⟨Nat.zero_le _, Nat.zero_le _⟩) (fun r15 h => ?_)
      refine lv_if_eq (tgt := 37) hx hb dX5_list_18 (by decide) (fun c18 => ?_) (fun c18 => ?_)
      · have h := h.1 c18
        exact bX5_list_37 Cc hIt σ _ _ hPt hS _ (lv_sub hl [0] rfl) h
      · have h := h.2 c18
        refine lv_aload_n hx hb dX5_list_21 rfl (lv_at hl 0 rfl) ?_
        refine lv_iconst (v := 3) hx hb dX5_list_22 (by decide) ?_
        refine lv_iload_n hx hb dX5_list_23 rfl (lv_at hl 1 rfl) ?_
        refine lv_iadd hx hb dX5_list_24 ?_
        refine lv_bipush (v := 10) hx hb dX5_list_25 (by decide) ?_
        refine lv_iload_n hx hb dX5_list_27 rfl (lv_at hl 2 rfl) ?_
        refine lv_imul hx hb dX5_list_28 ?_
        refine lv_iload_n hx hb dX5_list_29 rfl (lv_at hl 3 rfl) ?_
        refine lv_iadd hx hb dX5_list_30 ?_
        refine kWi (kV Cc (mX5_become l D κ τ a hIt h) (qX5_become hts (tw_838 hts) ⟨(Nat.le_of_ble_eq_true rfl), (Nat.le_of_ble_eq_true rfl)⟩) (va_recv hE.1 hPt (ci := 5) (q0 := 0) rfl rfl) (rest := []) hPt rfl hl.1 rfl (Nat.le_of_ble_eq_true rfl) dX5_list_31 ⟨Nat.zero_le _, Nat.zero_le _⟩) hS (fun q h9 => h9) (fun r31 u31 H1 locs1 h hB hk hS1 => ?_)
        have hPt := hB
        have hS := hS1
        refine lv_goto (tgt := 43) hx hb dX5_list_34 (by decide) ?_
        exact bX5_list_43 Cc hIt r31 u31 _ _ hPt hS _ (lv_sub hl [] rfl) h
theorem qX5_list {R : Room} {s : State} {args : Array Value} {own : String} {idx : Nat} (hts : ∀ w ∈ gG, w.before args s = true) (hl : (Cond.methodLink own idx yX5_list).before args s = true) (hR : rX5_list.frames + 1 ≤ R.frames ∧ 8 + (4 + 11) + rX5_list.locals ≤ R.locals) : CallW R s args own RX5 idx yX5_list cX5_list 4 (some .int) (wz yX5_list cX5_list 4 (some .int)) rX5_list 0 0 3 := ⟨kw 3 hts mw_828 rfl rfl (tw_75 hts) hl (by decide +kernel) hR, tw_826 hts, tw_827 hts⟩
abbrev rX5_listed : Room := { frames := 2, cells := 0, slots := 0, locals := 42 }
def pX5_listed_24 (Q : Int32 → Mx → Prop) (y0 : Int32) (σ : Mx) : Prop := Q y0 σ
def pX5_listed (σ : Mx) (x1 : Int32) (Q : Int32 → Mx → Prop) : Prop := pX5_isPlace x1 (fun r1 => ((r1 = 0 → (pX5_finding σ (-1000001) (fun r21 u21 => (pX5_listed_24 Q r21 u21)))) ∧ (¬ r1 = 0 → (vp_in (3 + x1) 67 ∧ (pX5_listed_24 Q (σ 0 (3 + x1).toNatClampNeg) σ)))))
set_option maxHeartbeats 4000000 in
set_option maxRecDepth 100000 in
theorem bX5_listed_24 {p : Program} {l : Launch} {e : Env} {s : State} {m : MethodId} {args : Array Value} {below : List Frame} {meth : Method} {c : Code} {D : va_G} {κ : Nat → ClassId} {τ : Nat → Nat} {a : Nat → Nat}   {Q : Int32 → Mx → Prop} (Cc : Cx D κ RX5 cX5_listed 2 (some .int) p s m args meth c) (hIt : Ij a 13)   : ∀ (y0 : Int32) (σ : Mx) (H : Heap) (locs : List Loc) (hPt : va_P D classes (wMo κ τ a σ) H) (hS : va_S (cA a 13) s.heap H locs) (ls : Array Slot) (hl : lv_has ls 2 []) (h : pX5_listed_24 Q y0 σ), W p l e rX5_listed s m args below meth c H locs 0 0 (MQ below (QWi Q (fun u H => va_P D classes (wMo κ τ a u) H) (cA a 13)) args s 0 0 (cA a 13)) (F0 m 24 ls [.int y0]) := by
  obtain ⟨hx, hb, hml, hown, hts, hr, hlk, hE⟩ := id Cc
  intro y0 σ H locs hPt hS ls hl h
  unfold pX5_listed_24 at h
  exact W.iret (v := y0) hx hb hr (fun t ht _ => QWi.mk (u := σ) h hPt hS ht) hS.2.2 dX5_listed_24 (hlocks := hlk)
set_option maxHeartbeats 4000000 in
set_option maxRecDepth 100000 in
theorem mX5_listed (l : Launch) (D : va_G) (κ : Nat → ClassId) (τ : Nat → Nat) (a : Nat → Nat) {σ : Mx} {x1 : Int32} {Q : Int32 → Mx → Prop} (hIt : Ij a 13) (h : pX5_listed σ x1 Q) : Met l yX5_listed (wz yX5_listed cX5_listed 2 (some .int)) rX5_listed (va_Pc [.ref (a 0), .int x1] (PE D κ (fun H => va_P D classes (wMo κ τ a σ) H))) (QWi Q (fun u H => va_P D classes (wMo κ τ a u) H) (cA a 13)) 0 0 (cA a 13) := by
  refine Met_of l (own := RX5) (by decide) rfl (Nat.le_of_ble_eq_true rfl) (fun p e s m below meth c Cc hPP ls hl => ?_)
  obtain ⟨hx, hb, hml, hown, hts, hr, hlk, hE⟩ := id Cc
  have hl : lv_has ls 2 [(0, .ref (a 0)), (1, .int x1)] := hl
  have hPt := hPP
  have hS : va_S (cA a 13) s.heap s.heap [] := va_S.rf
  unfold pX5_listed at h
  refine lv_iload_n hx hb dX5_listed_0 rfl (lv_at hl 1 rfl) ?_
  refine kR (kS Cc (mX5_isPlace l D κ h) (qX5_isPlace hts (tw_829 hts) ⟨(Nat.le_of_ble_eq_true rfl), (Nat.le_of_ble_eq_true rfl)⟩) (rest := []) trivial rfl hl.1 rfl (Nat.le_of_ble_eq_true rfl) dX5_listed_1 ⟨Nat.zero_le _, Nat.zero_le _⟩) (fun r1 h => ?_)
  refine lv_if_eq (tgt := 18) hx hb dX5_listed_4 (by decide) (fun c4 => ?_) (fun c4 => ?_)
  · have h := h.1 c4
    refine lv_aload_n hx hb dX5_listed_18 rfl (lv_at hl 0 rfl) ?_
    refine lv_ldc (own := RX5) (v := (-1000001)) hx hb hown (tw_842 hts) dX5_listed_19 ?_
    refine kWi (kV Cc (mX5_finding l D κ τ a hIt h) (qX5_finding hts (tw_843 hts) ⟨(Nat.le_of_ble_eq_true rfl), (Nat.le_of_ble_eq_true rfl)⟩) (va_recv hE.1 hPt (ci := 5) (q0 := 0) rfl rfl) (rest := []) hPt rfl hl.1 rfl (Nat.le_of_ble_eq_true rfl) dX5_listed_21 ⟨Nat.zero_le _, Nat.zero_le _⟩) hS (fun q h9 => h9) (fun r21 u21 H1 locs1 h hB hk hS1 => ?_)
    have hPt := hB
    have hS := hS1
    exact bX5_listed_24 Cc hIt r21 u21 _ _ hPt hS _ (lv_sub hl [] rfl) h
  · have h := h.2 c4
    refine lv_aload_n hx hb dX5_listed_7 rfl (lv_at hl 0 rfl) ?_
    refine gMo_0 Cc hPt (tw_761 hts) dX5_listed_8 ?_
    refine lv_iconst (v := 3) hx hb dX5_listed_11 (by decide) ?_
    refine lv_iload_n hx hb dX5_listed_12 rfl (lv_at hl 1 rfl) ?_
    refine lv_iadd hx hb dX5_listed_13 ?_
    refine lMo_0 Cc hPt h.1 dX5_listed_14 ?_
    have h := h.2
    refine lv_goto (tgt := 24) hx hb dX5_listed_15 (by decide) ?_
    exact bX5_listed_24 Cc hIt (σ 0 (3 + x1).toNatClampNeg) σ _ _ hPt hS _ (lv_sub hl [] rfl) h
theorem qX5_listed {R : Room} {s : State} {args : Array Value} {own : String} {idx : Nat} (hts : ∀ w ∈ gG, w.before args s = true) (hl : (Cond.methodLink own idx yX5_listed).before args s = true) (hR : rX5_listed.frames + 1 ≤ R.frames ∧ 8 + (2 + 11) + rX5_listed.locals ≤ R.locals) : CallW R s args own RX5 idx yX5_listed cX5_listed 2 (some .int) (wz yX5_listed cX5_listed 2 (some .int)) rX5_listed 0 0 1 := ⟨kw 1 hts mw_850 rfl rfl (tw_75 hts) hl (by decide +kernel) hR, tw_848 hts, tw_849 hts⟩
abbrev rX5_placeNow : Room := { frames := 0, cells := 0, slots := 0, locals := 0 }
def pX5_placeNow (σ : Mx)  (Q : Int32 → Prop) : Prop := vp_in 0 67 ∧ (Q (3 + ((σ 0 (0 : Int32).toNatClampNeg) - (σ 0 (0 : Int32).toNatClampNeg) / 6 * 6)))
set_option maxHeartbeats 4000000 in
set_option maxRecDepth 100000 in
theorem mX5_placeNow (l : Launch) (D : va_G) (κ : Nat → ClassId) (τ : Nat → Nat) (a : Nat → Nat) {σ : Mx}  {Q : Int32 → Prop}  (h : pX5_placeNow σ  Q) : Met l yX5_placeNow (wz yX5_placeNow cX5_placeNow 1 (some .int)) rX5_placeNow (va_Pc [.ref (a 0)] (PE D κ (fun H => va_P D classes (wMo κ τ a σ) H))) (RQ Q) 0 0 (fun _ => False) := by
  refine Met_of l (own := RX5) (by decide) rfl (Nat.le_of_ble_eq_true rfl) (fun p e s m below meth c Cc hPP ls hl => ?_)
  obtain ⟨hx, hb, hml, hown, hts, hr, hlk, hE⟩ := id Cc
  have hl : lv_has ls 1 [(0, .ref (a 0))] := hl
  have hPt := hPP
  unfold pX5_placeNow at h
  refine lv_iconst (v := 3) hx hb dX5_placeNow_0 (by decide) ?_
  refine lv_aload_n hx hb dX5_placeNow_1 rfl (lv_at hl 0 rfl) ?_
  refine gMo_0 Cc hPt (tw_761 hts) dX5_placeNow_2 ?_
  refine lv_iconst (v := 0) hx hb dX5_placeNow_5 (by decide) ?_
  refine lMo_0 Cc hPt h.1 dX5_placeNow_6 ?_
  have h := h.2
  refine lv_bipush (v := 6) hx hb dX5_placeNow_7 (by decide) ?_
  refine lv_irem hx hb dX5_placeNow_9 (by decide) ?_
  refine lv_iadd hx hb dX5_placeNow_10 ?_
  exact W.iret (v := (3 + ((σ 0 (0 : Int32).toNatClampNeg) - (σ 0 (0 : Int32).toNatClampNeg) / 6 * 6))) hx hb hr (fun t ht _ => RQ.mk h ht) (fun _ h9 => by cases h9) dX5_placeNow_11 (hlocks := hlk)
theorem qX5_placeNow {R : Room} {s : State} {args : Array Value} {own : String} {idx : Nat} (hts : ∀ w ∈ gG, w.before args s = true) (hl : (Cond.methodLink own idx yX5_placeNow).before args s = true) (hR : rX5_placeNow.frames + 1 ≤ R.frames ∧ 8 + (1 + 11) + rX5_placeNow.locals ≤ R.locals) : CallW R s args own RX5 idx yX5_placeNow cX5_placeNow 1 (some .int) (wz yX5_placeNow cX5_placeNow 1 (some .int)) rX5_placeNow 0 0 0 := ⟨kw 0 hts mw_958 rfl rfl (tw_75 hts) hl (by decide +kernel) hR, tw_957 hts, tw_39 hts⟩
abbrev rX5_pieceAt : Room := { frames := 0, cells := 0, slots := 0, locals := 0 }
def pX5_pieceAt  (x1 : Int32) (x2 : Int32) (Q : Int32 → Prop) : Prop := Q ((19 + (5 * x1)) + x2)
set_option maxHeartbeats 4000000 in
set_option maxRecDepth 100000 in
theorem mX5_pieceAt (l : Launch) (D : va_G) (κ : Nat → ClassId)   {x1 : Int32} {x2 : Int32} {Q : Int32 → Prop}  (h : pX5_pieceAt  x1 x2 Q) : Met l yX5_pieceAt (wz yX5_pieceAt cX5_pieceAt 2 (some .int)) rX5_pieceAt (va_Pc [.int x1, .int x2] (PE D κ (fun _ => True))) (RQ Q) 0 0 (fun _ => False) := by
  refine Met_of l (own := RX5) (by decide) rfl (Nat.le_of_ble_eq_true rfl) (fun p e s m below meth c Cc hPP ls hl => ?_)
  obtain ⟨hx, hb, hml, hown, hts, hr, hlk, hE⟩ := id Cc
  have hl : lv_has ls 2 [(0, .int x1), (1, .int x2)] := hl
  unfold pX5_pieceAt at h
  refine lv_bipush (v := 19) hx hb dX5_pieceAt_0 (by decide) ?_
  refine lv_iconst (v := 5) hx hb dX5_pieceAt_2 (by decide) ?_
  refine lv_iload_n hx hb dX5_pieceAt_3 rfl (lv_at hl 0 rfl) ?_
  refine lv_imul hx hb dX5_pieceAt_4 ?_
  refine lv_iadd hx hb dX5_pieceAt_5 ?_
  refine lv_iload_n hx hb dX5_pieceAt_6 rfl (lv_at hl 1 rfl) ?_
  refine lv_iadd hx hb dX5_pieceAt_7 ?_
  exact W.iret (v := ((19 + (5 * x1)) + x2)) hx hb hr (fun t ht _ => RQ.mk h ht) (fun _ h9 => by cases h9) dX5_pieceAt_8 (hlocks := hlk)
theorem qX5_pieceAt {R : Room} {s : State} {args : Array Value} {own : String} {idx : Nat} (hts : ∀ w ∈ gG, w.before args s = true) (hl : (Cond.methodLink own idx yX5_pieceAt).before args s = true) (hR : rX5_pieceAt.frames + 1 ≤ R.frames ∧ 8 + (2 + 11) + rX5_pieceAt.locals ≤ R.locals) : CallB R s args own idx yX5_pieceAt cX5_pieceAt 2 (some .int) (wz yX5_pieceAt cX5_pieceAt 2 (some .int)) rX5_pieceAt 0 0 2 ∧ (Cond.static yX5_pieceAt).before args s = true := ⟨kw 2 hts mw_868 rfl rfl (tw_75 hts) hl (by decide +kernel) hR, tw_867 hts⟩
abbrev rX5_pieceIs : Room := { frames := 1, cells := 0, slots := 0, locals := 21 }
def pX5_pieceIs (σ : Mx) (x1 : Int32) (x2 : Int32) (Q : Int32 → Prop) : Prop := pX5_pieceAt x1 x2 (fun r6 => (vp_in r6 67 ∧ (Q (σ 0 r6.toNatClampNeg))))
set_option maxHeartbeats 4000000 in
set_option maxRecDepth 100000 in
theorem mX5_pieceIs (l : Launch) (D : va_G) (κ : Nat → ClassId) (τ : Nat → Nat) (a : Nat → Nat) {σ : Mx} {x1 : Int32} {x2 : Int32} {Q : Int32 → Prop}  (h : pX5_pieceIs σ x1 x2 Q) : Met l yX5_pieceIs (wz yX5_pieceIs cX5_pieceIs 3 (some .int)) rX5_pieceIs (va_Pc [.ref (a 0), .int x1, .int x2] (PE D κ (fun H => va_P D classes (wMo κ τ a σ) H))) (RQ Q) 0 0 (fun _ => False) := by
  refine Met_of l (own := RX5) (by decide) rfl (Nat.le_of_ble_eq_true rfl) (fun p e s m below meth c Cc hPP ls hl => ?_)
  obtain ⟨hx, hb, hml, hown, hts, hr, hlk, hE⟩ := id Cc
  have hl : lv_has ls 3 [(0, .ref (a 0)), (1, .int x1), (2, .int x2)] := hl
  have hPt := hPP
  unfold pX5_pieceIs at h
  refine lv_aload_n hx hb dX5_pieceIs_0 rfl (lv_at hl 0 rfl) ?_
  refine gMo_0 Cc hPt (tw_761 hts) dX5_pieceIs_1 ?_
  refine lv_iload_n hx hb dX5_pieceIs_4 rfl (lv_at hl 1 rfl) ?_
  refine lv_iload_n hx hb dX5_pieceIs_5 rfl (lv_at hl 2 rfl) ?_
  refine kR (kS Cc (mX5_pieceAt l D κ h) (qX5_pieceAt hts (tw_866 hts) ⟨(Nat.le_of_ble_eq_true rfl), (Nat.le_of_ble_eq_true rfl)⟩) (rest := [.ref (a 1)]) trivial rfl hl.1 rfl (Nat.le_of_ble_eq_true rfl) dX5_pieceIs_6 ⟨Nat.zero_le _, Nat.zero_le _⟩) (fun r6 h => ?_)
  refine lMo_0 Cc hPt h.1 dX5_pieceIs_9 ?_
  have h := h.2
  exact W.iret (v := (σ 0 r6.toNatClampNeg)) hx hb hr (fun t ht _ => RQ.mk h ht) (fun _ h9 => by cases h9) dX5_pieceIs_10 (hlocks := hlk)
theorem qX5_pieceIs {R : Room} {s : State} {args : Array Value} {own : String} {idx : Nat} (hts : ∀ w ∈ gG, w.before args s = true) (hl : (Cond.methodLink own idx yX5_pieceIs).before args s = true) (hR : rX5_pieceIs.frames + 1 ≤ R.frames ∧ 8 + (3 + 11) + rX5_pieceIs.locals ≤ R.locals) : CallW R s args own RX5 idx yX5_pieceIs cX5_pieceIs 3 (some .int) (wz yX5_pieceIs cX5_pieceIs 3 (some .int)) rX5_pieceIs 0 0 2 := ⟨kw 2 hts mw_892 rfl rfl (tw_75 hts) hl (by decide +kernel) hR, tw_891 hts, tw_30 hts⟩
abbrev rX5_isPiece : Room := { frames := 1, cells := 0, slots := 0, locals := 22 }
def pX5_isPiece (σ : Mx) (x1 : Int32) (Q : Int32 → Prop) : Prop := vp_in 1 67 ∧ (pX5_within x1 0 ((σ 0 (1 : Int32).toNatClampNeg) - 1) (fun r10 => ((r10 = 0 ∨ r10 = 1) ∧ (Q r10))))
set_option maxHeartbeats 4000000 in
set_option maxRecDepth 100000 in
theorem mX5_isPiece (l : Launch) (D : va_G) (κ : Nat → ClassId) (τ : Nat → Nat) (a : Nat → Nat) {σ : Mx} {x1 : Int32} {Q : Int32 → Prop}  (h : pX5_isPiece σ x1 Q) : Met l yX5_isPiece (wz yX5_isPiece cX5_isPiece 2 (some .boolean)) rX5_isPiece (va_Pc [.ref (a 0), .int x1] (PE D κ (fun H => va_P D classes (wMo κ τ a σ) H))) (RQ Q) 0 0 (fun _ => False) := by
  refine Met_of l (own := RX5) (by decide) rfl (Nat.le_of_ble_eq_true rfl) (fun p e s m below meth c Cc hPP ls hl => ?_)
  obtain ⟨hx, hb, hml, hown, hts, hr, hlk, hE⟩ := id Cc
  have hl : lv_has ls 2 [(0, .ref (a 0)), (1, .int x1)] := hl
  have hPt := hPP
  unfold pX5_isPiece at h
  refine lv_iload_n hx hb dX5_isPiece_0 rfl (lv_at hl 1 rfl) ?_
  refine lv_iconst (v := 0) hx hb dX5_isPiece_1 (by decide) ?_
  refine lv_aload_n hx hb dX5_isPiece_2 rfl (lv_at hl 0 rfl) ?_
  refine gMo_0 Cc hPt (tw_761 hts) dX5_isPiece_3 ?_
  refine lv_iconst (v := 1) hx hb dX5_isPiece_6 (by decide) ?_
  refine lMo_0 Cc hPt h.1 dX5_isPiece_7 ?_
  have h := h.2
  refine lv_iconst (v := 1) hx hb dX5_isPiece_8 (by decide) ?_
  refine lv_isub hx hb dX5_isPiece_9 ?_
  refine kR (kS Cc (mX5_within l D κ h) (qX5_within hts (tw_832 hts) ⟨(Nat.le_of_ble_eq_true rfl), (Nat.le_of_ble_eq_true rfl)⟩) (rest := []) trivial rfl hl.1 rfl (Nat.le_of_ble_eq_true rfl) dX5_isPiece_10 ⟨Nat.zero_le _, Nat.zero_le _⟩) (fun r10 h => ?_)
  exact W.zret (v := r10) (ty := .boolean) hx hb hr (bool_nar h.1) (fun t ht _ => RQ.mk h.2 ht) (fun _ h9 => by cases h9) dX5_isPiece_13 (hlocks := hlk)
theorem qX5_isPiece {R : Room} {s : State} {args : Array Value} {own : String} {idx : Nat} (hts : ∀ w ∈ gG, w.before args s = true) (hl : (Cond.methodLink own idx yX5_isPiece).before args s = true) (hR : rX5_isPiece.frames + 1 ≤ R.frames ∧ 8 + (2 + 11) + rX5_isPiece.locals ≤ R.locals) : CallW R s args own RX5 idx yX5_isPiece cX5_isPiece 2 (some .boolean) (wz yX5_isPiece cX5_isPiece 2 (some .boolean)) rX5_isPiece 0 0 1 := ⟨kw 1 hts mw_876 rfl rfl (tw_75 hts) hl (by decide +kernel) hR, tw_875 hts, tw_26 hts⟩
abbrev rX5_isKind : Room := { frames := 1, cells := 0, slots := 0, locals := 22 }
def pX5_isKind  (x1 : Int32) (Q : Int32 → Prop) : Prop := pX5_within x1 0 6 (fun r4 => ((r4 = 0 ∨ r4 = 1) ∧ (Q r4)))
set_option maxHeartbeats 4000000 in
set_option maxRecDepth 100000 in
theorem mX5_isKind (l : Launch) (D : va_G) (κ : Nat → ClassId)   {x1 : Int32} {Q : Int32 → Prop}  (h : pX5_isKind  x1 Q) : Met l yX5_isKind (wz yX5_isKind cX5_isKind 1 (some .boolean)) rX5_isKind (va_Pc [.int x1] (PE D κ (fun _ => True))) (RQ Q) 0 0 (fun _ => False) := by
  refine Met_of l (own := RX5) (by decide) rfl (Nat.le_of_ble_eq_true rfl) (fun p e s m below meth c Cc hPP ls hl => ?_)
  obtain ⟨hx, hb, hml, hown, hts, hr, hlk, hE⟩ := id Cc
  have hl : lv_has ls 1 [(0, .int x1)] := hl
  unfold pX5_isKind at h
  refine lv_iload_n hx hb dX5_isKind_0 rfl (lv_at hl 0 rfl) ?_
  refine lv_iconst (v := 0) hx hb dX5_isKind_1 (by decide) ?_
  refine lv_bipush (v := 6) hx hb dX5_isKind_2 (by decide) ?_
  refine kR (kS Cc (mX5_within l D κ h) (qX5_within hts (tw_832 hts) ⟨(Nat.le_of_ble_eq_true rfl), (Nat.le_of_ble_eq_true rfl)⟩) (rest := []) trivial rfl hl.1 rfl (Nat.le_of_ble_eq_true rfl) dX5_isKind_4 ⟨Nat.zero_le _, Nat.zero_le _⟩) (fun r4 h => ?_)
  exact W.zret (v := r4) (ty := .boolean) hx hb hr (bool_nar h.1) (fun t ht _ => RQ.mk h.2 ht) (fun _ h9 => by cases h9) dX5_isKind_7 (hlocks := hlk)
theorem qX5_isKind {R : Room} {s : State} {args : Array Value} {own : String} {idx : Nat} (hts : ∀ w ∈ gG, w.before args s = true) (hl : (Cond.methodLink own idx yX5_isKind).before args s = true) (hR : rX5_isKind.frames + 1 ≤ R.frames ∧ 8 + (1 + 11) + rX5_isKind.locals ≤ R.locals) : CallB R s args own idx yX5_isKind cX5_isKind 1 (some .boolean) (wz yX5_isKind cX5_isKind 1 (some .boolean)) rX5_isKind 0 0 1 ∧ (Cond.static yX5_isKind).before args s = true := ⟨kw 1 hts mw_857 rfl rfl (tw_75 hts) hl (by decide +kernel) hR, tw_856 hts⟩
abbrev rX5_isCut : Room := { frames := 1, cells := 0, slots := 0, locals := 21 }
def pX5_isCut (σ : Mx) (x1 : Int32) (x2 : Int32) (x3 : Int32) (Q : Int32 → Mx → Prop) : Prop := vp_in 1 67 ∧ (∀ v6 : Int32, v6 = (σ 0 (1 : Int32).toNatClampNeg) → (pX5_pieceAt v6 0 (fun r15 => (vp_in r15 67 ∧ (pX5_pieceAt v6 1 (fun r27 => (vp_in r27 67 ∧ (pX5_pieceAt v6 2 (fun r39 => (vp_in r39 67 ∧ (pX5_pieceAt v6 3 (fun r51 => (vp_in r51 67 ∧ (pX5_pieceAt v6 4 (fun r63 => (vp_in r63 67 ∧ (vp_in (59 + v6) 67 ∧ (vp_in 1 67 ∧ (vp_in 1 67 ∧ (Q v6 (st (st (st (st (st (st (st σ 0 r15.toNatClampNeg x1) 0 r27.toNatClampNeg x2) 0 r39.toNatClampNeg x3) 0 r51.toNatClampNeg (-1)) 0 r63.toNatClampNeg 0) 0 (59 + v6).toNatClampNeg v6) 0 (1 : Int32).toNatClampNeg (((st (st (st (st (st (st σ 0 r15.toNatClampNeg x1) 0 r27.toNatClampNeg x2) 0 r39.toNatClampNeg x3) 0 r51.toNatClampNeg (-1)) 0 r63.toNatClampNeg 0) 0 (59 + v6).toNatClampNeg v6) 0 (1 : Int32).toNatClampNeg) + 1))))))))))))))))))))))
set_option maxHeartbeats 4000000 in
set_option maxRecDepth 100000 in
theorem mX5_isCut (l : Launch) (D : va_G) (κ : Nat → ClassId) (τ : Nat → Nat) (a : Nat → Nat) {σ : Mx} {x1 : Int32} {x2 : Int32} {x3 : Int32} {Q : Int32 → Mx → Prop} (hIt : Ij a 13) (h : pX5_isCut σ x1 x2 x3 Q) : Met l yX5_isCut (wz yX5_isCut cX5_isCut 5 (some .int)) rX5_isCut (va_Pc [.ref (a 0), .int x1, .int x2, .int x3] (PE D κ (fun H => va_P D classes (wMo κ τ a σ) H))) (QWi Q (fun u H => va_P D classes (wMo κ τ a u) H) (cA a 13)) 0 0 (cA a 13) := by
  refine Met_of l (own := RX5) (by decide) rfl (Nat.le_of_ble_eq_true rfl) (fun p e s m below meth c Cc hPP ls hl => ?_)
  obtain ⟨hx, hb, hml, hown, hts, hr, hlk, hE⟩ := id Cc
  have hl : lv_has ls 5 [(0, .ref (a 0)), (1, .int x1), (2, .int x2), (3, .int x3)] := hl
  have hPt := hPP
  have hS : va_S (cA a 13) s.heap s.heap [] := va_S.rf
  unfold pX5_isCut at h
  refine lv_aload_n hx hb dX5_isCut_0 rfl (lv_at hl 0 rfl) ?_
  refine gMo_0 Cc hPt (tw_761 hts) dX5_isCut_1 ?_
  refine lv_iconst (v := 1) hx hb dX5_isCut_4 (by decide) ?_
  refine lMo_0 Cc hPt h.1 dX5_isCut_5 ?_
  have h := h.2
  refine lv_topi (fun v6 e6 => ?_)
  have h := h v6 e6
  refine lv_istore (lv' := [(4, .int v6), (0, .ref (a 0)), (1, .int x1), (2, .int x2), (3, .int x3)]) hx hb dX5_isCut_6 hl (by decide) rfl (fun ls hl => ?_)
  refine lv_aload_n hx hb dX5_isCut_8 rfl (lv_at hl 1 rfl) ?_
  refine gMo_0 Cc hPt (tw_761 hts) dX5_isCut_9 ?_
  refine lv_iload hx hb dX5_isCut_12 (lv_at hl 0 rfl) ?_
  refine lv_iconst (v := 0) hx hb dX5_isCut_14 (by decide) ?_
  refine kR (kS Cc (mX5_pieceAt l D κ h) (qX5_pieceAt hts (tw_866 hts) ⟨(Nat.le_of_ble_eq_true rfl), (Nat.le_of_ble_eq_true rfl)⟩) (rest := [.ref (a 1)]) trivial rfl hl.1 rfl (Nat.le_of_ble_eq_true rfl) dX5_isCut_15 ⟨Nat.zero_le _, Nat.zero_le _⟩) (fun r15 h => ?_)
  refine lv_iload_n hx hb dX5_isCut_18 rfl (lv_at hl 2 rfl) ?_
  refine sMo_0 Cc hPt hIt hS ⟨1, by decide, rfl⟩ h.1 dX5_isCut_19 (fun H1 locs1 hB hS1 hk => ?_)
  have h := h.2
  have hPt := hB
  have hS := hS1
  refine lv_aload_n hx hb dX5_isCut_20 rfl (lv_at hl 1 rfl) ?_
  refine gMo_0 Cc hPt (tw_761 hts) dX5_isCut_21 ?_
  refine lv_iload hx hb dX5_isCut_24 (lv_at hl 0 rfl) ?_
  refine lv_iconst (v := 1) hx hb dX5_isCut_26 (by decide) ?_
  refine kR (kS Cc (mX5_pieceAt l D κ h) (qX5_pieceAt hts (tw_866 hts) ⟨(Nat.le_of_ble_eq_true rfl), (Nat.le_of_ble_eq_true rfl)⟩) (rest := [.ref (a 1)]) trivial rfl hl.1 rfl (Nat.le_of_ble_eq_true rfl) dX5_isCut_27 ⟨Nat.zero_le _, Nat.zero_le _⟩) (fun r27 h => ?_)
  refine lv_iload_n hx hb dX5_isCut_30 rfl (lv_at hl 3 rfl) ?_
  refine sMo_0 Cc hPt hIt hS ⟨1, by decide, rfl⟩ h.1 dX5_isCut_31 (fun H1 locs1 hB hS1 hk => ?_)
  have h := h.2
  have hPt := hB
  have hS := hS1
  refine lv_aload_n hx hb dX5_isCut_32 rfl (lv_at hl 1 rfl) ?_
  refine gMo_0 Cc hPt (tw_761 hts) dX5_isCut_33 ?_
  refine lv_iload hx hb dX5_isCut_36 (lv_at hl 0 rfl) ?_
  refine lv_iconst (v := 2) hx hb dX5_isCut_38 (by decide) ?_
  refine kR (kS Cc (mX5_pieceAt l D κ h) (qX5_pieceAt hts (tw_866 hts) ⟨(Nat.le_of_ble_eq_true rfl), (Nat.le_of_ble_eq_true rfl)⟩) (rest := [.ref (a 1)]) trivial rfl hl.1 rfl (Nat.le_of_ble_eq_true rfl) dX5_isCut_39 ⟨Nat.zero_le _, Nat.zero_le _⟩) (fun r39 h => ?_)
  refine lv_iload_n hx hb dX5_isCut_42 rfl (lv_at hl 4 rfl) ?_
  refine sMo_0 Cc hPt hIt hS ⟨1, by decide, rfl⟩ h.1 dX5_isCut_43 (fun H1 locs1 hB hS1 hk => ?_)
  have h := h.2
  have hPt := hB
  have hS := hS1
  refine lv_aload_n hx hb dX5_isCut_44 rfl (lv_at hl 1 rfl) ?_
  refine gMo_0 Cc hPt (tw_761 hts) dX5_isCut_45 ?_
  refine lv_iload hx hb dX5_isCut_48 (lv_at hl 0 rfl) ?_
  refine lv_iconst (v := 3) hx hb dX5_isCut_50 (by decide) ?_
  refine kR (kS Cc (mX5_pieceAt l D κ h) (qX5_pieceAt hts (tw_866 hts) ⟨(Nat.le_of_ble_eq_true rfl), (Nat.le_of_ble_eq_true rfl)⟩) (rest := [.ref (a 1)]) trivial rfl hl.1 rfl (Nat.le_of_ble_eq_true rfl) dX5_isCut_51 ⟨Nat.zero_le _, Nat.zero_le _⟩) (fun r51 h => ?_)
  refine lv_iconst (v := (-1)) hx hb dX5_isCut_54 (by decide) ?_
  refine sMo_0 Cc hPt hIt hS ⟨1, by decide, rfl⟩ h.1 dX5_isCut_55 (fun H1 locs1 hB hS1 hk => ?_)
  have h := h.2
  have hPt := hB
  have hS := hS1
  refine lv_aload_n hx hb dX5_isCut_56 rfl (lv_at hl 1 rfl) ?_
  refine gMo_0 Cc hPt (tw_761 hts) dX5_isCut_57 ?_
  refine lv_iload hx hb dX5_isCut_60 (lv_at hl 0 rfl) ?_
  refine lv_iconst (v := 4) hx hb dX5_isCut_62 (by decide) ?_
  refine kR (kS Cc (mX5_pieceAt l D κ h) (qX5_pieceAt hts (tw_866 hts) ⟨(Nat.le_of_ble_eq_true rfl), (Nat.le_of_ble_eq_true rfl)⟩) (rest := [.ref (a 1)]) trivial rfl hl.1 rfl (Nat.le_of_ble_eq_true rfl) dX5_isCut_63 ⟨Nat.zero_le _, Nat.zero_le _⟩) (fun r63 h => ?_)
  refine lv_iconst (v := 0) hx hb dX5_isCut_66 (by decide) ?_
  refine sMo_0 Cc hPt hIt hS ⟨1, by decide, rfl⟩ h.1 dX5_isCut_67 (fun H1 locs1 hB hS1 hk => ?_)
  have h := h.2
  have hPt := hB
  have hS := hS1
  refine lv_aload_n hx hb dX5_isCut_68 rfl (lv_at hl 1 rfl) ?_
  refine gMo_0 Cc hPt (tw_761 hts) dX5_isCut_69 ?_
  refine lv_bipush (v := 59) hx hb dX5_isCut_72 (by decide) ?_
  refine lv_iload hx hb dX5_isCut_74 (lv_at hl 0 rfl) ?_
  refine lv_iadd hx hb dX5_isCut_76 ?_
  refine lv_iload hx hb dX5_isCut_77 (lv_at hl 0 rfl) ?_
  refine sMo_0 Cc hPt hIt hS ⟨1, by decide, rfl⟩ h.1 dX5_isCut_79 (fun H1 locs1 hB hS1 hk => ?_)
  have h := h.2
  have hPt := hB
  have hS := hS1
  refine lv_aload_n hx hb dX5_isCut_80 rfl (lv_at hl 1 rfl) ?_
  refine gMo_0 Cc hPt (tw_761 hts) dX5_isCut_81 ?_
  refine lv_iconst (v := 1) hx hb dX5_isCut_84 (by decide) ?_
  refine lv_dup2_11 hx hb dX5_isCut_85 rfl rfl ?_
  refine lMo_0 Cc hPt h.1 dX5_isCut_86 ?_
  have h := h.2
  refine lv_iconst (v := 1) hx hb dX5_isCut_87 (by decide) ?_
  refine lv_iadd hx hb dX5_isCut_88 ?_
  refine sMo_0 Cc hPt hIt hS ⟨1, by decide, rfl⟩ h.1 dX5_isCut_89 (fun H1 locs1 hB hS1 hk => ?_)
  have h := h.2
  have hPt := hB
  have hS := hS1
  refine lv_iload hx hb dX5_isCut_90 (lv_at hl 0 rfl) ?_
  exact W.iret (v := v6) hx hb hr (fun t ht _ => QWi.mk (u := (st (st (st (st (st (st (st σ 0 r15.toNatClampNeg x1) 0 r27.toNatClampNeg x2) 0 r39.toNatClampNeg x3) 0 r51.toNatClampNeg (-1)) 0 r63.toNatClampNeg 0) 0 (59 + v6).toNatClampNeg v6) 0 (1 : Int32).toNatClampNeg (((st (st (st (st (st (st σ 0 r15.toNatClampNeg x1) 0 r27.toNatClampNeg x2) 0 r39.toNatClampNeg x3) 0 r51.toNatClampNeg (-1)) 0 r63.toNatClampNeg 0) 0 (59 + v6).toNatClampNeg v6) 0 (1 : Int32).toNatClampNeg) + 1))) h hPt hS ht) hS.2.2 dX5_isCut_92 (hlocks := hlk)
theorem qX5_isCut {R : Room} {s : State} {args : Array Value} {own : String} {idx : Nat} (hts : ∀ w ∈ gG, w.before args s = true) (hl : (Cond.methodLink own idx yX5_isCut).before args s = true) (hR : rX5_isCut.frames + 1 ≤ R.frames ∧ 8 + (5 + 11) + rX5_isCut.locals ≤ R.locals) : CallW R s args own RX5 idx yX5_isCut cX5_isCut 5 (some .int) (wz yX5_isCut cX5_isCut 5 (some .int)) rX5_isCut 0 0 3 := ⟨kw 3 hts mw_865 rfl rfl (tw_75 hts) hl (by decide +kernel) hR, tw_864 hts, tw_25 hts⟩
abbrev rX5_piece : Room := { frames := 2, cells := 0, slots := 0, locals := 45 }
def pX5_piece_21 (Q : Int32 → Mx → Prop) (σ : Mx) : Prop := pX5_finding σ (-1000001) (fun r24 u24 => (Q r24 u24))
def pX5_piece_55 (Q : Int32 → Mx → Prop) (y0 : Int32) (σ : Mx) : Prop := Q y0 σ
def pX5_piece (σ : Mx) (x1 : Int32) (x2 : Int32) (x3 : Int32) (Q : Int32 → Mx → Prop) : Prop := pX5_isKind x1 (fun r1 => ((r1 = 0 → (pX5_piece_21 Q σ)) ∧ (¬ r1 = 0 → (pX5_isEdge x2 (fun r8 => ((r8 = 0 → (pX5_piece_21 Q σ)) ∧ (¬ r8 = 0 → (pX5_isEdge x3 (fun r15 => ((¬ r15 = 0 → (vp_in 1 67 ∧ ((¬ (σ 0 (1 : Int32).toNatClampNeg) = 8 → (pX5_isCut σ x1 x2 x3 (fun r52 u52 => (pX5_piece_55 Q r52 u52)))) ∧ ((σ 0 (1 : Int32).toNatClampNeg) = 8 → (pX5_finding σ (-1000002) (fun r42 u42 => (pX5_piece_55 Q r42 u42))))))) ∧ (r15 = 0 → (pX5_piece_21 Q σ))))))))))))
set_option maxHeartbeats 4000000 in
set_option maxRecDepth 100000 in
theorem bX5_piece_21 {p : Program} {l : Launch} {e : Env} {s : State} {m : MethodId} {args : Array Value} {below : List Frame} {meth : Method} {c : Code} {D : va_G} {κ : Nat → ClassId} {τ : Nat → Nat} {a : Nat → Nat}   {Q : Int32 → Mx → Prop} (Cc : Cx D κ RX5 cX5_piece 4 (some .int) p s m args meth c) (hIt : Ij a 13)   : ∀ (σ : Mx) (H : Heap) (locs : List Loc) (hPt : va_P D classes (wMo κ τ a σ) H) (hS : va_S (cA a 13) s.heap H locs) (ls : Array Slot) (hl : lv_has ls 4 [(0, .ref (a 0))]) (h : pX5_piece_21 Q σ), W p l e rX5_piece s m args below meth c H locs 0 0 (MQ below (QWi Q (fun u H => va_P D classes (wMo κ τ a u) H) (cA a 13)) args s 0 0 (cA a 13)) (F0 m 21 ls []) := by
  obtain ⟨hx, hb, hml, hown, hts, hr, hlk, hE⟩ := id Cc
  intro σ H locs hPt hS ls hl h
  unfold pX5_piece_21 at h
  refine lv_aload_n hx hb dX5_piece_21 rfl (lv_at hl 0 rfl) ?_
  refine lv_ldc (own := RX5) (v := (-1000001)) hx hb hown (tw_842 hts) dX5_piece_22 ?_
  refine kWi (kV Cc (mX5_finding l D κ τ a hIt h) (qX5_finding hts (tw_843 hts) ⟨(Nat.le_of_ble_eq_true rfl), (Nat.le_of_ble_eq_true rfl)⟩) (va_recv hE.1 hPt (ci := 5) (q0 := 0) rfl rfl) (rest := []) hPt rfl hl.1 rfl (Nat.le_of_ble_eq_true rfl) dX5_piece_24 ⟨Nat.zero_le _, Nat.zero_le _⟩) hS (fun q h9 => h9) (fun r24 u24 H1 locs1 h hB hk hS1 => ?_)
  have hPt := hB
  have hS := hS1
  exact W.iret (v := r24) hx hb hr (fun t ht _ => QWi.mk (u := u24) h hPt hS ht) hS.2.2 dX5_piece_27 (hlocks := hlk)
set_option maxHeartbeats 4000000 in
set_option maxRecDepth 100000 in
theorem bX5_piece_55 {p : Program} {l : Launch} {e : Env} {s : State} {m : MethodId} {args : Array Value} {below : List Frame} {meth : Method} {c : Code} {D : va_G} {κ : Nat → ClassId} {τ : Nat → Nat} {a : Nat → Nat}   {Q : Int32 → Mx → Prop} (Cc : Cx D κ RX5 cX5_piece 4 (some .int) p s m args meth c) (hIt : Ij a 13)   : ∀ (y0 : Int32) (σ : Mx) (H : Heap) (locs : List Loc) (hPt : va_P D classes (wMo κ τ a σ) H) (hS : va_S (cA a 13) s.heap H locs) (ls : Array Slot) (hl : lv_has ls 4 []) (h : pX5_piece_55 Q y0 σ), W p l e rX5_piece s m args below meth c H locs 0 0 (MQ below (QWi Q (fun u H => va_P D classes (wMo κ τ a u) H) (cA a 13)) args s 0 0 (cA a 13)) (F0 m 55 ls [.int y0]) := by
  obtain ⟨hx, hb, hml, hown, hts, hr, hlk, hE⟩ := id Cc
  intro y0 σ H locs hPt hS ls hl h
  unfold pX5_piece_55 at h
  exact W.iret (v := y0) hx hb hr (fun t ht _ => QWi.mk (u := σ) h hPt hS ht) hS.2.2 dX5_piece_55 (hlocks := hlk)
set_option maxHeartbeats 4000000 in
set_option maxRecDepth 100000 in
theorem mX5_piece (l : Launch) (D : va_G) (κ : Nat → ClassId) (τ : Nat → Nat) (a : Nat → Nat) {σ : Mx} {x1 : Int32} {x2 : Int32} {x3 : Int32} {Q : Int32 → Mx → Prop} (hIt : Ij a 13) (h : pX5_piece σ x1 x2 x3 Q) : Met l yX5_piece (wz yX5_piece cX5_piece 4 (some .int)) rX5_piece (va_Pc [.ref (a 0), .int x1, .int x2, .int x3] (PE D κ (fun H => va_P D classes (wMo κ τ a σ) H))) (QWi Q (fun u H => va_P D classes (wMo κ τ a u) H) (cA a 13)) 0 0 (cA a 13) := by
  refine Met_of l (own := RX5) (by decide) rfl (Nat.le_of_ble_eq_true rfl) (fun p e s m below meth c Cc hPP ls hl => ?_)
  obtain ⟨hx, hb, hml, hown, hts, hr, hlk, hE⟩ := id Cc
  have hl : lv_has ls 4 [(0, .ref (a 0)), (1, .int x1), (2, .int x2), (3, .int x3)] := hl
  have hPt := hPP
  have hS : va_S (cA a 13) s.heap s.heap [] := va_S.rf
  unfold pX5_piece at h
  refine lv_iload_n hx hb dX5_piece_0 rfl (lv_at hl 1 rfl) ?_
  refine kR (kS Cc (mX5_isKind l D κ h) (qX5_isKind hts (tw_855 hts) ⟨(Nat.le_of_ble_eq_true rfl), (Nat.le_of_ble_eq_true rfl)⟩) (rest := []) trivial rfl hl.1 rfl (Nat.le_of_ble_eq_true rfl) dX5_piece_1 ⟨Nat.zero_le _, Nat.zero_le _⟩) (fun r1 h => ?_)
  refine lv_if_eq (tgt := 21) hx hb dX5_piece_4 (by decide) (fun c4 => ?_) (fun c4 => ?_)
  · have h := h.1 c4
    exact bX5_piece_21 Cc hIt σ _ _ hPt hS _ (lv_sub hl [0] rfl) h
  · have h := h.2 c4
    refine lv_iload_n hx hb dX5_piece_7 rfl (lv_at hl 2 rfl) ?_
    refine kR (kS Cc (mX5_isEdge l D κ h) (qX5_isEdge hts (tw_858 hts) ⟨(Nat.le_of_ble_eq_true rfl), (Nat.le_of_ble_eq_true rfl)⟩) (rest := []) trivial rfl hl.1 rfl (Nat.le_of_ble_eq_true rfl) dX5_piece_8 ⟨Nat.zero_le _, Nat.zero_le _⟩) (fun r8 h => ?_)
    refine lv_if_eq (tgt := 21) hx hb dX5_piece_11 (by decide) (fun c11 => ?_) (fun c11 => ?_)
    · have h := h.1 c11
      exact bX5_piece_21 Cc hIt σ _ _ hPt hS _ (lv_sub hl [0] rfl) h
    · have h := h.2 c11
      refine lv_iload_n hx hb dX5_piece_14 rfl (lv_at hl 3 rfl) ?_
      refine kR (kS Cc (mX5_isEdge l D κ h) (qX5_isEdge hts (tw_858 hts) ⟨(Nat.le_of_ble_eq_true rfl), (Nat.le_of_ble_eq_true rfl)⟩) (rest := []) trivial rfl hl.1 rfl (Nat.le_of_ble_eq_true rfl) dX5_piece_15 ⟨Nat.zero_le _, Nat.zero_le _⟩) (fun r15 h => ?_)
      refine lv_if_ne (tgt := 28) hx hb dX5_piece_18 (by decide) (fun c18 => ?_) (fun c18 => ?_)
      · have h := h.1 c18
        refine lv_aload_n hx hb dX5_piece_28 rfl (lv_at hl 0 rfl) ?_
        refine gMo_0 Cc hPt (tw_761 hts) dX5_piece_29 ?_
        refine lv_iconst (v := 1) hx hb dX5_piece_32 (by decide) ?_
        refine lMo_0 Cc hPt h.1 dX5_piece_33 ?_
        have h := h.2
        refine lv_bipush (v := 8) hx hb dX5_piece_34 (by decide) ?_
        refine lv_icmp_ne (tgt := 48) hx hb dX5_piece_36 (by decide) (fun c36 => ?_) (fun c36 => ?_)
        · have h := h.1 c36
          refine lv_aload_n hx hb dX5_piece_48 rfl (lv_at hl 0 rfl) ?_
          refine lv_iload_n hx hb dX5_piece_49 rfl (lv_at hl 1 rfl) ?_
          refine lv_iload_n hx hb dX5_piece_50 rfl (lv_at hl 2 rfl) ?_
          refine lv_iload_n hx hb dX5_piece_51 rfl (lv_at hl 3 rfl) ?_
          refine kWi (kV Cc (mX5_isCut l D κ τ a hIt h) (qX5_isCut hts (tw_862 hts) ⟨(Nat.le_of_ble_eq_true rfl), (Nat.le_of_ble_eq_true rfl)⟩) (va_recv hE.1 hPt (ci := 5) (q0 := 0) rfl rfl) (rest := []) hPt rfl hl.1 rfl (Nat.le_of_ble_eq_true rfl) dX5_piece_52 ⟨Nat.zero_le _, Nat.zero_le _⟩) hS (fun q h9 => h9) (fun r52 u52 H1 locs1 h hB hk hS1 => ?_)
          have hPt := hB
          have hS := hS1
          exact bX5_piece_55 Cc hIt r52 u52 _ _ hPt hS _ (lv_sub hl [] rfl) h
        · have h := h.2 c36
          refine lv_aload_n hx hb dX5_piece_39 rfl (lv_at hl 0 rfl) ?_
          refine lv_ldc (own := RX5) (v := (-1000002)) hx hb hown (tw_861 hts) dX5_piece_40 ?_
          refine kWi (kV Cc (mX5_finding l D κ τ a hIt h) (qX5_finding hts (tw_843 hts) ⟨(Nat.le_of_ble_eq_true rfl), (Nat.le_of_ble_eq_true rfl)⟩) (va_recv hE.1 hPt (ci := 5) (q0 := 0) rfl rfl) (rest := []) hPt rfl hl.1 rfl (Nat.le_of_ble_eq_true rfl) dX5_piece_42 ⟨Nat.zero_le _, Nat.zero_le _⟩) hS (fun q h9 => h9) (fun r42 u42 H1 locs1 h hB hk hS1 => ?_)
          have hPt := hB
          have hS := hS1
          refine lv_goto (tgt := 55) hx hb dX5_piece_45 (by decide) ?_
          exact bX5_piece_55 Cc hIt r42 u42 _ _ hPt hS _ (lv_sub hl [] rfl) h
      · have h := h.2 c18
        exact bX5_piece_21 Cc hIt σ _ _ hPt hS _ (lv_sub hl [0] rfl) h
theorem qX5_piece {R : Room} {s : State} {args : Array Value} {own : String} {idx : Nat} (hts : ∀ w ∈ gG, w.before args s = true) (hl : (Cond.methodLink own idx yX5_piece).before args s = true) (hR : rX5_piece.frames + 1 ≤ R.frames ∧ 8 + (4 + 11) + rX5_piece.locals ≤ R.locals) : CallW R s args own RX5 idx yX5_piece cX5_piece 4 (some .int) (wz yX5_piece cX5_piece 4 (some .int)) rX5_piece 0 0 3 := ⟨kw 3 hts mw_854 rfl rfl (tw_75 hts) hl (by decide +kernel) hR, tw_852 hts, tw_853 hts⟩
abbrev rX5_whereLies : Room := { frames := 0, cells := 0, slots := 0, locals := 0 }
def pX5_whereLies_2s (σ : Mx) (ih2 : Int32 → Int32 → Prop) (Q : Int32 → Prop) (x1 : Int32) (x2 : Int32) : Prop := vp_in (59 + x2) 67 ∧ (((σ 0 (59 + x2).toNatClampNeg) = x1 → (Q x2)) ∧ (¬ (σ 0 (59 + x2).toNatClampNeg) = x1 → (ih2 x1 (x2 + 1))))
noncomputable def pX5_whereLies_2 (σ : Mx) (Q : Int32 → Prop) (n : Nat) : Int32 → Int32 → Prop := Nat.rec (motive := fun _ => Int32 → Int32 → Prop) (fun _ _ => False) (fun _ ih => pX5_whereLies_2s σ ih Q) n
def pX5_whereLies (σ : Mx) (x1 : Int32) (Q : Int32 → Prop) : Prop := ∃ n, pX5_whereLies_2 σ Q n x1 0
set_option maxHeartbeats 4000000 in
set_option maxRecDepth 100000 in
theorem bX5_whereLies_2 {p : Program} {l : Launch} {e : Env} {s : State} {m : MethodId} {args : Array Value} {below : List Frame} {meth : Method} {c : Code} {D : va_G} {κ : Nat → ClassId} {τ : Nat → Nat} {a : Nat → Nat} {σ : Mx}  {Q : Int32 → Prop} (Cc : Cx D κ RX5 cX5_whereLies 3 (some .int) p s m args meth c)  (hPt : va_P D classes (wMo κ τ a σ) s.heap)  (n : Nat) : ∀ (x1 : Int32) (x2 : Int32) (ls : Array Slot) (hl : lv_has ls 3 [(0, .ref (a 0)), (1, .int x1), (2, .int x2)]) (h : pX5_whereLies_2 σ Q n x1 x2), W p l e rX5_whereLies s m args below meth c s.heap [] 0 0 (MQ below (RQ Q) args s 0 0 (fun _ => False)) (F0 m 2 ls []) := by
  obtain ⟨hx, hb, hml, hown, hts, hr, hlk, hE⟩ := id Cc
  induction n with
  | zero =>
    intro x1 x2 ls hl h
    exact absurd h (fun z => z)
  | succ n hih2 =>
    intro x1 x2 ls hl h
    have h : pX5_whereLies_2s σ (pX5_whereLies_2 σ Q n) Q x1 x2 := h
    unfold pX5_whereLies_2s at h
    refine lv_aload_n hx hb dX5_whereLies_2 rfl (lv_at hl 0 rfl) ?_
    refine gMo_0 Cc hPt (tw_761 hts) dX5_whereLies_3 ?_
    refine lv_bipush (v := 59) hx hb dX5_whereLies_6 (by decide) ?_
    refine lv_iload_n hx hb dX5_whereLies_8 rfl (lv_at hl 2 rfl) ?_
    refine lv_iadd hx hb dX5_whereLies_9 ?_
    refine lMo_0 Cc hPt h.1 dX5_whereLies_10 ?_
    have h := h.2
    refine lv_iload_n hx hb dX5_whereLies_11 rfl (lv_at hl 1 rfl) ?_
    refine lv_icmp_eq (tgt := 21) hx hb dX5_whereLies_12 (by decide) (fun c12 => ?_) (fun c12 => ?_)
    · have h := h.1 c12
      refine lv_iload_n hx hb dX5_whereLies_21 rfl (lv_at hl 2 rfl) ?_
      exact W.iret (v := x2) hx hb hr (fun t ht _ => RQ.mk h ht) (fun _ h9 => by cases h9) dX5_whereLies_22 (hlocks := hlk)
    · have h := h.2 c12
      refine lv_iinc (v := (x2 + 1)) (lv' := [(2, .int (x2 + 1)), (0, .ref (a 0)), (1, .int x1)]) hx hb dX5_whereLies_15 hl (k := 2) rfl rfl (by decide) rfl (fun ls hl => ?_)
      refine lv_goto (tgt := 2) hx hb dX5_whereLies_18 (by decide) ?_
      exact hih2 x1 (x2 + 1)  _ (lv_sub hl [1, 2, 0] rfl) h
set_option maxHeartbeats 4000000 in
set_option maxRecDepth 100000 in
theorem mX5_whereLies (l : Launch) (D : va_G) (κ : Nat → ClassId) (τ : Nat → Nat) (a : Nat → Nat) {σ : Mx} {x1 : Int32} {Q : Int32 → Prop}  (h : pX5_whereLies σ x1 Q) : Met l yX5_whereLies (wz yX5_whereLies cX5_whereLies 3 (some .int)) rX5_whereLies (va_Pc [.ref (a 0), .int x1] (PE D κ (fun H => va_P D classes (wMo κ τ a σ) H))) (RQ Q) 0 0 (fun _ => False) := by
  refine Met_of l (own := RX5) (by decide) rfl (Nat.le_of_ble_eq_true rfl) (fun p e s m below meth c Cc hPP ls hl => ?_)
  obtain ⟨hx, hb, hml, hown, hts, hr, hlk, hE⟩ := id Cc
  have hl : lv_has ls 3 [(0, .ref (a 0)), (1, .int x1)] := hl
  have hPt := hPP
  unfold pX5_whereLies at h
  refine lv_iconst (v := 0) hx hb dX5_whereLies_0 (by decide) ?_
  refine lv_istore_n (lv' := [(2, .int 0), (0, .ref (a 0)), (1, .int x1)]) hx hb dX5_whereLies_1 rfl hl (by decide) rfl (fun ls hl => ?_)
  obtain ⟨n, h⟩ := h
  exact bX5_whereLies_2 Cc hPt n x1 0  _ (lv_sub hl [1, 2, 0] rfl) h
theorem qX5_whereLies {R : Room} {s : State} {args : Array Value} {own : String} {idx : Nat} (hts : ∀ w ∈ gG, w.before args s = true) (hl : (Cond.methodLink own idx yX5_whereLies).before args s = true) (hR : rX5_whereLies.frames + 1 ≤ R.frames ∧ 8 + (3 + 11) + rX5_whereLies.locals ≤ R.locals) : CallW R s args own RX5 idx yX5_whereLies cX5_whereLies 3 (some .int) (wz yX5_whereLies cX5_whereLies 3 (some .int)) rX5_whereLies 0 0 1 := ⟨kw 1 hts mw_884 rfl rfl (tw_75 hts) hl (by decide +kernel) hR, tw_883 hts, tw_28 hts⟩
abbrev rX5_grows : Room := { frames := 2, cells := 0, slots := 0, locals := 43 }
def pX5_grows_44 (σ : Mx) (Q : Int32 → Prop)  : Prop := Q 0
def pX5_grows (σ : Mx) (x1 : Int32) (Q : Int32 → Prop) : Prop := pX5_pieceIs σ x1 0 (fun r3 => ((r3 = 1 → (pX5_grows_44 σ Q )) ∧ (r3 = 2 → (Q 3)) ∧ (r3 = 3 → (Q 4)) ∧ (r3 = 4 → (Q 8)) ∧ (r3 = 5 → (pX5_grows_44 σ Q )) ∧ (r3 = 6 → (pX5_grows_44 σ Q )) ∧ (¬ r3 = 1 → ¬ r3 = 2 → ¬ r3 = 3 → ¬ r3 = 4 → ¬ r3 = 5 → ¬ r3 = 6 → (Q 1))))
set_option maxHeartbeats 4000000 in
set_option maxRecDepth 100000 in
theorem bX5_grows_44 {p : Program} {l : Launch} {e : Env} {s : State} {m : MethodId} {args : Array Value} {below : List Frame} {meth : Method} {c : Code} {D : va_G} {κ : Nat → ClassId} {τ : Nat → Nat} {a : Nat → Nat} {σ : Mx}  {Q : Int32 → Prop} (Cc : Cx D κ RX5 cX5_grows 2 (some .int) p s m args meth c)  (hPt : va_P D classes (wMo κ τ a σ) s.heap)  : ∀ (ls : Array Slot) (hl : lv_has ls 2 []) (h : pX5_grows_44 σ Q ), W p l e rX5_grows s m args below meth c s.heap [] 0 0 (MQ below (RQ Q) args s 0 0 (fun _ => False)) (F0 m 44 ls []) := by
  obtain ⟨hx, hb, hml, hown, hts, hr, hlk, hE⟩ := id Cc
  intro ls hl h
  unfold pX5_grows_44 at h
  refine lv_iconst (v := 0) hx hb dX5_grows_44 (by decide) ?_
  exact W.iret (v := 0) hx hb hr (fun t ht _ => RQ.mk h ht) (fun _ h9 => by cases h9) dX5_grows_45 (hlocks := hlk)
set_option maxHeartbeats 4000000 in
set_option maxRecDepth 100000 in
theorem mX5_grows (l : Launch) (D : va_G) (κ : Nat → ClassId) (τ : Nat → Nat) (a : Nat → Nat) {σ : Mx} {x1 : Int32} {Q : Int32 → Prop}  (h : pX5_grows σ x1 Q) : Met l yX5_grows (wz yX5_grows cX5_grows 2 (some .int)) rX5_grows (va_Pc [.ref (a 0), .int x1] (PE D κ (fun H => va_P D classes (wMo κ τ a σ) H))) (RQ Q) 0 0 (fun _ => False) := by
  refine Met_of l (own := RX5) (by decide) rfl (Nat.le_of_ble_eq_true rfl) (fun p e s m below meth c Cc hPP ls hl => ?_)
  obtain ⟨hx, hb, hml, hown, hts, hr, hlk, hE⟩ := id Cc
  have hl : lv_has ls 2 [(0, .ref (a 0)), (1, .int x1)] := hl
  have hPt := hPP
  unfold pX5_grows at h
  refine lv_aload_n hx hb dX5_grows_0 rfl (lv_at hl 0 rfl) ?_
  refine lv_iload_n hx hb dX5_grows_1 rfl (lv_at hl 1 rfl) ?_
  refine lv_iconst (v := 0) hx hb dX5_grows_2 (by decide) ?_
  refine kR (kV Cc (mX5_pieceIs l D κ τ a h) (qX5_pieceIs hts (tw_889 hts) ⟨(Nat.le_of_ble_eq_true rfl), (Nat.le_of_ble_eq_true rfl)⟩) (va_recv hE.1 hPt (ci := 5) (q0 := 0) rfl rfl) (rest := []) hPt rfl hl.1 rfl (Nat.le_of_ble_eq_true rfl) dX5_grows_3 ⟨Nat.zero_le _, Nat.zero_le _⟩) (fun r3 h => ?_)
  by_cases c6_1 : r3 = 1
  · have h := h.1 c6_1
    refine lv_tableIn (tgt := 44) hx hb dX5_grows_6 (by rw [c6_1]; decide) (by rw [c6_1]; decide) (by rw [c6_1]; rfl) (by decide) ?_
    exact bX5_grows_44 Cc hPt   _ (lv_sub hl [] rfl) h
  · have h := h.2
    by_cases c6_2 : r3 = 2
    · have h := h.1 c6_2
      refine lv_tableIn (tgt := 46) hx hb dX5_grows_6 (by rw [c6_2]; decide) (by rw [c6_2]; decide) (by rw [c6_2]; rfl) (by decide) ?_
      refine lv_iconst (v := 3) hx hb dX5_grows_46 (by decide) ?_
      exact W.iret (v := 3) hx hb hr (fun t ht _ => RQ.mk h ht) (fun _ h9 => by cases h9) dX5_grows_47 (hlocks := hlk)
    · have h := h.2
      by_cases c6_3 : r3 = 3
      · have h := h.1 c6_3
        refine lv_tableIn (tgt := 48) hx hb dX5_grows_6 (by rw [c6_3]; decide) (by rw [c6_3]; decide) (by rw [c6_3]; rfl) (by decide) ?_
        refine lv_iconst (v := 4) hx hb dX5_grows_48 (by decide) ?_
        exact W.iret (v := 4) hx hb hr (fun t ht _ => RQ.mk h ht) (fun _ h9 => by cases h9) dX5_grows_49 (hlocks := hlk)
      · have h := h.2
        by_cases c6_4 : r3 = 4
        · have h := h.1 c6_4
          refine lv_tableIn (tgt := 50) hx hb dX5_grows_6 (by rw [c6_4]; decide) (by rw [c6_4]; decide) (by rw [c6_4]; rfl) (by decide) ?_
          refine lv_bipush (v := 8) hx hb dX5_grows_50 (by decide) ?_
          exact W.iret (v := 8) hx hb hr (fun t ht _ => RQ.mk h ht) (fun _ h9 => by cases h9) dX5_grows_52 (hlocks := hlk)
        · have h := h.2
          by_cases c6_5 : r3 = 5
          · have h := h.1 c6_5
            refine lv_tableIn (tgt := 44) hx hb dX5_grows_6 (by rw [c6_5]; decide) (by rw [c6_5]; decide) (by rw [c6_5]; rfl) (by decide) ?_
            exact bX5_grows_44 Cc hPt   _ (lv_sub hl [] rfl) h
          · have h := h.2
            by_cases c6_6 : r3 = 6
            · have h := h.1 c6_6
              refine lv_tableIn (tgt := 44) hx hb dX5_grows_6 (by rw [c6_6]; decide) (by rw [c6_6]; decide) (by rw [c6_6]; rfl) (by decide) ?_
              exact bX5_grows_44 Cc hPt   _ (lv_sub hl [] rfl) h
            · have h := h.2
              have h := h c6_1 c6_2 c6_3 c6_4 c6_5 c6_6
              refine lv_tableOut (tgt := 53) hx hb dX5_grows_6 (by have h1 := ne_toInt c6_1 (z := 1) (by decide); have h2 := ne_toInt c6_2 (z := 2) (by decide); have h3 := ne_toInt c6_3 (z := 3) (by decide); have h4 := ne_toInt c6_4 (z := 4) (by decide); have h5 := ne_toInt c6_5 (z := 5) (by decide); have h6 := ne_toInt c6_6 (z := 6) (by decide); omega) (by decide) ?_
              refine lv_iconst (v := 1) hx hb dX5_grows_53 (by decide) ?_
              exact W.iret (v := 1) hx hb hr (fun t ht _ => RQ.mk h ht) (fun _ h9 => by cases h9) dX5_grows_54 (hlocks := hlk)
theorem qX5_grows {R : Room} {s : State} {args : Array Value} {own : String} {idx : Nat} (hts : ∀ w ∈ gG, w.before args s = true) (hl : (Cond.methodLink own idx yX5_grows).before args s = true) (hR : rX5_grows.frames + 1 ≤ R.frames ∧ 8 + (2 + 11) + rX5_grows.locals ≤ R.locals) : CallW R s args own RX5 idx yX5_grows cX5_grows 2 (some .int) (wz yX5_grows cX5_grows 2 (some .int)) rX5_grows 0 0 1 := ⟨kw 1 hts mw_888 rfl rfl (tw_75 hts) hl (by decide +kernel) hR, tw_887 hts, tw_29 hts⟩
abbrev rX5_told : Room := { frames := 3, cells := 0, slots := 0, locals := 64 }
def pX5_told_33 (σ : Mx) (Q : Int32 → Prop) (y0 : Int32) : Prop := Q y0
def pX5_told (σ : Mx) (x1 : Int32) (x2 : Int32) (Q : Int32 → Prop) : Prop := (¬ x2 = 5 → ((¬ x2 = 6 → (pX5_pieceIs σ x1 x2 (fun r30 => (pX5_told_33 σ Q r30)))) ∧ (x2 = 6 → (pX5_grows σ x1 (fun r21 => (pX5_told_33 σ Q r21)))))) ∧ (x2 = 5 → (pX5_whereLies σ x1 (fun r7 => (pX5_told_33 σ Q r7))))
set_option maxHeartbeats 4000000 in
set_option maxRecDepth 100000 in
theorem bX5_told_33 {p : Program} {l : Launch} {e : Env} {s : State} {m : MethodId} {args : Array Value} {below : List Frame} {meth : Method} {c : Code} {D : va_G} {κ : Nat → ClassId} {τ : Nat → Nat} {a : Nat → Nat} {σ : Mx}  {Q : Int32 → Prop} (Cc : Cx D κ RX5 cX5_told 3 (some .int) p s m args meth c)  (hPt : va_P D classes (wMo κ τ a σ) s.heap)  : ∀ (y0 : Int32) (ls : Array Slot) (hl : lv_has ls 3 []) (h : pX5_told_33 σ Q y0), W p l e rX5_told s m args below meth c s.heap [] 0 0 (MQ below (RQ Q) args s 0 0 (fun _ => False)) (F0 m 33 ls [.int y0]) := by
  obtain ⟨hx, hb, hml, hown, hts, hr, hlk, hE⟩ := id Cc
  intro y0 ls hl h
  unfold pX5_told_33 at h
  exact W.iret (v := y0) hx hb hr (fun t ht _ => RQ.mk h ht) (fun _ h9 => by cases h9) dX5_told_33 (hlocks := hlk)
set_option maxHeartbeats 4000000 in
set_option maxRecDepth 100000 in
theorem mX5_told (l : Launch) (D : va_G) (κ : Nat → ClassId) (τ : Nat → Nat) (a : Nat → Nat) {σ : Mx} {x1 : Int32} {x2 : Int32} {Q : Int32 → Prop}  (h : pX5_told σ x1 x2 Q) : Met l yX5_told (wz yX5_told cX5_told 3 (some .int)) rX5_told (va_Pc [.ref (a 0), .int x1, .int x2] (PE D κ (fun H => va_P D classes (wMo κ τ a σ) H))) (RQ Q) 0 0 (fun _ => False) := by
  refine Met_of l (own := RX5) (by decide) rfl (Nat.le_of_ble_eq_true rfl) (fun p e s m below meth c Cc hPP ls hl => ?_)
  obtain ⟨hx, hb, hml, hown, hts, hr, hlk, hE⟩ := id Cc
  have hl : lv_has ls 3 [(0, .ref (a 0)), (1, .int x1), (2, .int x2)] := hl
  have hPt := hPP
  unfold pX5_told at h
  refine lv_iload_n hx hb dX5_told_0 rfl (lv_at hl 2 rfl) ?_
  refine lv_iconst (v := 5) hx hb dX5_told_1 (by decide) ?_
  refine lv_icmp_ne (tgt := 13) hx hb dX5_told_2 (by decide) (fun c2 => ?_) (fun c2 => ?_)
  · have h := h.1 c2
    refine lv_iload_n hx hb dX5_told_13 rfl (lv_at hl 2 rfl) ?_
    refine lv_bipush (v := 6) hx hb dX5_told_14 (by decide) ?_
    refine lv_icmp_ne (tgt := 27) hx hb dX5_told_16 (by decide) (fun c16 => ?_) (fun c16 => ?_)
    · have h := h.1 c16
      refine lv_aload_n hx hb dX5_told_27 rfl (lv_at hl 0 rfl) ?_
      refine lv_iload_n hx hb dX5_told_28 rfl (lv_at hl 1 rfl) ?_
      refine lv_iload_n hx hb dX5_told_29 rfl (lv_at hl 2 rfl) ?_
      refine kR (kV Cc (mX5_pieceIs l D κ τ a h) (qX5_pieceIs hts (tw_889 hts) ⟨(Nat.le_of_ble_eq_true rfl), (Nat.le_of_ble_eq_true rfl)⟩) (va_recv hE.1 hPt (ci := 5) (q0 := 0) rfl rfl) (rest := []) hPt rfl hl.1 rfl (Nat.le_of_ble_eq_true rfl) dX5_told_30 ⟨Nat.zero_le _, Nat.zero_le _⟩) (fun r30 h => ?_)
      exact bX5_told_33 Cc hPt r30  _ (lv_sub hl [] rfl) h
    · have h := h.2 c16
      refine lv_aload_n hx hb dX5_told_19 rfl (lv_at hl 0 rfl) ?_
      refine lv_iload_n hx hb dX5_told_20 rfl (lv_at hl 1 rfl) ?_
      refine kR (kV Cc (mX5_grows l D κ τ a h) (qX5_grows hts (tw_885 hts) ⟨(Nat.le_of_ble_eq_true rfl), (Nat.le_of_ble_eq_true rfl)⟩) (va_recv hE.1 hPt (ci := 5) (q0 := 0) rfl rfl) (rest := []) hPt rfl hl.1 rfl (Nat.le_of_ble_eq_true rfl) dX5_told_21 ⟨Nat.zero_le _, Nat.zero_le _⟩) (fun r21 h => ?_)
      refine lv_goto (tgt := 33) hx hb dX5_told_24 (by decide) ?_
      exact bX5_told_33 Cc hPt r21  _ (lv_sub hl [] rfl) h
  · have h := h.2 c2
    refine lv_aload_n hx hb dX5_told_5 rfl (lv_at hl 0 rfl) ?_
    refine lv_iload_n hx hb dX5_told_6 rfl (lv_at hl 1 rfl) ?_
    refine kR (kV Cc (mX5_whereLies l D κ τ a h) (qX5_whereLies hts (tw_881 hts) ⟨(Nat.le_of_ble_eq_true rfl), (Nat.le_of_ble_eq_true rfl)⟩) (va_recv hE.1 hPt (ci := 5) (q0 := 0) rfl rfl) (rest := []) hPt rfl hl.1 rfl (Nat.le_of_ble_eq_true rfl) dX5_told_7 ⟨Nat.zero_le _, Nat.zero_le _⟩) (fun r7 h => ?_)
    refine lv_goto (tgt := 33) hx hb dX5_told_10 (by decide) ?_
    exact bX5_told_33 Cc hPt r7  _ (lv_sub hl [] rfl) h
theorem qX5_told {R : Room} {s : State} {args : Array Value} {own : String} {idx : Nat} (hts : ∀ w ∈ gG, w.before args s = true) (hl : (Cond.methodLink own idx yX5_told).before args s = true) (hR : rX5_told.frames + 1 ≤ R.frames ∧ 8 + (3 + 11) + rX5_told.locals ≤ R.locals) : CallW R s args own RX5 idx yX5_told cX5_told 3 (some .int) (wz yX5_told cX5_told 3 (some .int)) rX5_told 0 0 2 := ⟨kw 2 hts mw_880 rfl rfl (tw_75 hts) hl (by decide +kernel) hR, tw_879 hts, tw_27 hts⟩
abbrev rX5_of : Room := { frames := 4, cells := 0, slots := 0, locals := 86 }
def pX5_of_33 (Q : Int32 → Mx → Prop) (y0 : Int32) (σ : Mx) : Prop := Q y0 σ
def pX5_of_27 (Q : Int32 → Mx → Prop) (σ : Mx) : Prop := pX5_finding σ (-1000001) (fun r30 u30 => (pX5_of_33 Q r30 u30))
def pX5_of (σ : Mx) (x1 : Int32) (x2 : Int32) (Q : Int32 → Mx → Prop) : Prop := pX5_isPiece σ x1 (fun r2 => ((r2 = 0 → (pX5_of_27 Q σ)) ∧ (¬ r2 = 0 → (pX5_within x2 0 6 (fun r12 => ((r12 = 0 → (pX5_of_27 Q σ)) ∧ (¬ r12 = 0 → (pX5_told σ x1 x2 (fun r21 => (pX5_of_33 Q r21 σ))))))))))
set_option maxHeartbeats 4000000 in
set_option maxRecDepth 100000 in
theorem bX5_of_33 {p : Program} {l : Launch} {e : Env} {s : State} {m : MethodId} {args : Array Value} {below : List Frame} {meth : Method} {c : Code} {D : va_G} {κ : Nat → ClassId} {τ : Nat → Nat} {a : Nat → Nat}   {Q : Int32 → Mx → Prop} (Cc : Cx D κ RX5 cX5_of 3 (some .int) p s m args meth c) (hIt : Ij a 13)   : ∀ (y0 : Int32) (σ : Mx) (H : Heap) (locs : List Loc) (hPt : va_P D classes (wMo κ τ a σ) H) (hS : va_S (cA a 13) s.heap H locs) (ls : Array Slot) (hl : lv_has ls 3 []) (h : pX5_of_33 Q y0 σ), W p l e rX5_of s m args below meth c H locs 0 0 (MQ below (QWi Q (fun u H => va_P D classes (wMo κ τ a u) H) (cA a 13)) args s 0 0 (cA a 13)) (F0 m 33 ls [.int y0]) := by
  obtain ⟨hx, hb, hml, hown, hts, hr, hlk, hE⟩ := id Cc
  intro y0 σ H locs hPt hS ls hl h
  unfold pX5_of_33 at h
  exact W.iret (v := y0) hx hb hr (fun t ht _ => QWi.mk (u := σ) h hPt hS ht) hS.2.2 dX5_of_33 (hlocks := hlk)
set_option maxHeartbeats 4000000 in
set_option maxRecDepth 100000 in
theorem bX5_of_27 {p : Program} {l : Launch} {e : Env} {s : State} {m : MethodId} {args : Array Value} {below : List Frame} {meth : Method} {c : Code} {D : va_G} {κ : Nat → ClassId} {τ : Nat → Nat} {a : Nat → Nat}   {Q : Int32 → Mx → Prop} (Cc : Cx D κ RX5 cX5_of 3 (some .int) p s m args meth c) (hIt : Ij a 13)   : ∀ (σ : Mx) (H : Heap) (locs : List Loc) (hPt : va_P D classes (wMo κ τ a σ) H) (hS : va_S (cA a 13) s.heap H locs) (ls : Array Slot) (hl : lv_has ls 3 [(0, .ref (a 0))]) (h : pX5_of_27 Q σ), W p l e rX5_of s m args below meth c H locs 0 0 (MQ below (QWi Q (fun u H => va_P D classes (wMo κ τ a u) H) (cA a 13)) args s 0 0 (cA a 13)) (F0 m 27 ls []) := by
  obtain ⟨hx, hb, hml, hown, hts, hr, hlk, hE⟩ := id Cc
  intro σ H locs hPt hS ls hl h
  unfold pX5_of_27 at h
  refine lv_aload_n hx hb dX5_of_27 rfl (lv_at hl 0 rfl) ?_
  refine lv_ldc (own := RX5) (v := (-1000001)) hx hb hown (tw_842 hts) dX5_of_28 ?_
  refine kWi (kV Cc (mX5_finding l D κ τ a hIt h) (qX5_finding hts (tw_843 hts) ⟨(Nat.le_of_ble_eq_true rfl), (Nat.le_of_ble_eq_true rfl)⟩) (va_recv hE.1 hPt (ci := 5) (q0 := 0) rfl rfl) (rest := []) hPt rfl hl.1 rfl (Nat.le_of_ble_eq_true rfl) dX5_of_30 ⟨Nat.zero_le _, Nat.zero_le _⟩) hS (fun q h9 => h9) (fun r30 u30 H1 locs1 h hB hk hS1 => ?_)
  have hPt := hB
  have hS := hS1
  exact bX5_of_33 Cc hIt r30 u30 _ _ hPt hS _ (lv_sub hl [] rfl) h
set_option maxHeartbeats 4000000 in
set_option maxRecDepth 100000 in
theorem mX5_of (l : Launch) (D : va_G) (κ : Nat → ClassId) (τ : Nat → Nat) (a : Nat → Nat) {σ : Mx} {x1 : Int32} {x2 : Int32} {Q : Int32 → Mx → Prop} (hIt : Ij a 13) (h : pX5_of σ x1 x2 Q) : Met l yX5_of (wz yX5_of cX5_of 3 (some .int)) rX5_of (va_Pc [.ref (a 0), .int x1, .int x2] (PE D κ (fun H => va_P D classes (wMo κ τ a σ) H))) (QWi Q (fun u H => va_P D classes (wMo κ τ a u) H) (cA a 13)) 0 0 (cA a 13) := by
  refine Met_of l (own := RX5) (by decide) rfl (Nat.le_of_ble_eq_true rfl) (fun p e s m below meth c Cc hPP ls hl => ?_)
  obtain ⟨hx, hb, hml, hown, hts, hr, hlk, hE⟩ := id Cc
  have hl : lv_has ls 3 [(0, .ref (a 0)), (1, .int x1), (2, .int x2)] := hl
  have hPt := hPP
  have hS : va_S (cA a 13) s.heap s.heap [] := va_S.rf
  unfold pX5_of at h
  refine lv_aload_n hx hb dX5_of_0 rfl (lv_at hl 0 rfl) ?_
  refine lv_iload_n hx hb dX5_of_1 rfl (lv_at hl 1 rfl) ?_
  refine kR (kV Cc (mX5_isPiece l D κ τ a h) (qX5_isPiece hts (tw_873 hts) ⟨(Nat.le_of_ble_eq_true rfl), (Nat.le_of_ble_eq_true rfl)⟩) (va_recv hE.1 hPt (ci := 5) (q0 := 0) rfl rfl) (rest := []) hPt rfl hl.1 rfl (Nat.le_of_ble_eq_true rfl) dX5_of_2 ⟨Nat.zero_le _, Nat.zero_le _⟩) (fun r2 h => ?_)
  refine lv_if_eq (tgt := 27) hx hb dX5_of_5 (by decide) (fun c5 => ?_) (fun c5 => ?_)
  · have h := h.1 c5
    exact bX5_of_27 Cc hIt σ _ _ hPt hS _ (lv_sub hl [0] rfl) h
  · have h := h.2 c5
    refine lv_iload_n hx hb dX5_of_8 rfl (lv_at hl 2 rfl) ?_
    refine lv_iconst (v := 0) hx hb dX5_of_9 (by decide) ?_
    refine lv_bipush (v := 6) hx hb dX5_of_10 (by decide) ?_
    refine kR (kS Cc (mX5_within l D κ h) (qX5_within hts (tw_832 hts) ⟨(Nat.le_of_ble_eq_true rfl), (Nat.le_of_ble_eq_true rfl)⟩) (rest := []) trivial rfl hl.1 rfl (Nat.le_of_ble_eq_true rfl) dX5_of_12 ⟨Nat.zero_le _, Nat.zero_le _⟩) (fun r12 h => ?_)
    refine lv_if_eq (tgt := 27) hx hb dX5_of_15 (by decide) (fun c15 => ?_) (fun c15 => ?_)
    · have h := h.1 c15
      exact bX5_of_27 Cc hIt σ _ _ hPt hS _ (lv_sub hl [0] rfl) h
    · have h := h.2 c15
      refine lv_aload_n hx hb dX5_of_18 rfl (lv_at hl 0 rfl) ?_
      refine lv_iload_n hx hb dX5_of_19 rfl (lv_at hl 1 rfl) ?_
      refine lv_iload_n hx hb dX5_of_20 rfl (lv_at hl 2 rfl) ?_
      refine kR (kV Cc (mX5_told l D κ τ a h) (qX5_told hts (tw_877 hts) ⟨(Nat.le_of_ble_eq_true rfl), (Nat.le_of_ble_eq_true rfl)⟩) (va_recv hE.1 hPt (ci := 5) (q0 := 0) rfl rfl) (rest := []) hPt rfl hl.1 rfl (Nat.le_of_ble_eq_true rfl) dX5_of_21 ⟨Nat.zero_le _, Nat.zero_le _⟩) (fun r21 h => ?_)
      refine lv_goto (tgt := 33) hx hb dX5_of_24 (by decide) ?_
      exact bX5_of_33 Cc hIt r21 σ _ _ hPt hS _ (lv_sub hl [] rfl) h
theorem qX5_of {R : Room} {s : State} {args : Array Value} {own : String} {idx : Nat} (hts : ∀ w ∈ gG, w.before args s = true) (hl : (Cond.methodLink own idx yX5_of).before args s = true) (hR : rX5_of.frames + 1 ≤ R.frames ∧ 8 + (3 + 11) + rX5_of.locals ≤ R.locals) : CallW R s args own RX5 idx yX5_of cX5_of 3 (some .int) (wz yX5_of cX5_of 3 (some .int)) rX5_of 0 0 2 := ⟨kw 2 hts mw_872 rfl rfl (tw_75 hts) hl (by decide +kernel) hR, tw_870 hts, tw_871 hts⟩
abbrev rX5_isField : Room := { frames := 2, cells := 0, slots := 0, locals := 42 }
def pX5_isField_41 (Q : Int32 → Prop) (x1 : Int32) : Prop := pX5_isEdge x1 (fun r42 => ((r42 = 0 ∨ r42 = 1) ∧ (Q r42)))
def pX5_isField_63 (Q : Int32 → Prop) (y0 : Int32) : Prop := (y0 = 0 ∨ y0 = 1) ∧ (Q y0)
def pX5_isField_58 (Q : Int32 → Prop)  : Prop := pX5_isField_63 Q 1
def pX5_isField  (x1 : Int32) (x2 : Int32) (Q : Int32 → Prop) : Prop := (x1 = 0 → (pX5_isKind x2 (fun r37 => ((r37 = 0 ∨ r37 = 1) ∧ (Q r37))))) ∧ (x1 = 1 → (pX5_isField_41 Q x2)) ∧ (x1 = 2 → (pX5_isField_41 Q x2)) ∧ (x1 = 3 → ((x2 = (-1) → (pX5_isField_58 Q )) ∧ (¬ x2 = (-1) → (pX5_isOne x2 (fun r52 => ((r52 = 0 → (pX5_isField_63 Q 0)) ∧ (¬ r52 = 0 → (pX5_isField_58 Q )))))))) ∧ (x1 = 4 → (pX5_within x2 0 1 (fun r67 => ((r67 = 0 ∨ r67 = 1) ∧ (Q r67))))) ∧ (¬ x1 = 0 → ¬ x1 = 1 → ¬ x1 = 2 → ¬ x1 = 3 → ¬ x1 = 4 → (Q 0))
set_option maxHeartbeats 4000000 in
set_option maxRecDepth 100000 in
theorem bX5_isField_41 {p : Program} {l : Launch} {e : Env} {s : State} {m : MethodId} {args : Array Value} {below : List Frame} {meth : Method} {c : Code} {D : va_G} {κ : Nat → ClassId}    {Q : Int32 → Prop} (Cc : Cx D κ RX5 cX5_isField 2 (some .boolean) p s m args meth c)    : ∀ (x1 : Int32) (ls : Array Slot) (hl : lv_has ls 2 [(1, .int x1)]) (h : pX5_isField_41 Q x1), W p l e rX5_isField s m args below meth c s.heap [] 0 0 (MQ below (RQ Q) args s 0 0 (fun _ => False)) (F0 m 41 ls []) := by
  obtain ⟨hx, hb, hml, hown, hts, hr, hlk, hE⟩ := id Cc
  intro x1 ls hl h
  unfold pX5_isField_41 at h
  refine lv_iload_n hx hb dX5_isField_41 rfl (lv_at hl 0 rfl) ?_
  refine kR (kS Cc (mX5_isEdge l D κ h) (qX5_isEdge hts (tw_858 hts) ⟨(Nat.le_of_ble_eq_true rfl), (Nat.le_of_ble_eq_true rfl)⟩) (rest := []) trivial rfl hl.1 rfl (Nat.le_of_ble_eq_true rfl) dX5_isField_42 ⟨Nat.zero_le _, Nat.zero_le _⟩) (fun r42 h => ?_)
  exact W.zret (v := r42) (ty := .boolean) hx hb hr (bool_nar h.1) (fun t ht _ => RQ.mk h.2 ht) (fun _ h9 => by cases h9) dX5_isField_45 (hlocks := hlk)
set_option maxHeartbeats 4000000 in
set_option maxRecDepth 100000 in
theorem bX5_isField_63 {p : Program} {l : Launch} {e : Env} {s : State} {m : MethodId} {args : Array Value} {below : List Frame} {meth : Method} {c : Code} {D : va_G} {κ : Nat → ClassId}    {Q : Int32 → Prop} (Cc : Cx D κ RX5 cX5_isField 2 (some .boolean) p s m args meth c)    : ∀ (y0 : Int32) (ls : Array Slot) (hl : lv_has ls 2 []) (h : pX5_isField_63 Q y0), W p l e rX5_isField s m args below meth c s.heap [] 0 0 (MQ below (RQ Q) args s 0 0 (fun _ => False)) (F0 m 63 ls [.int y0]) := by
  obtain ⟨hx, hb, hml, hown, hts, hr, hlk, hE⟩ := id Cc
  intro y0 ls hl h
  unfold pX5_isField_63 at h
  exact W.zret (v := y0) (ty := .boolean) hx hb hr (bool_nar h.1) (fun t ht _ => RQ.mk h.2 ht) (fun _ h9 => by cases h9) dX5_isField_63 (hlocks := hlk)
set_option maxHeartbeats 4000000 in
set_option maxRecDepth 100000 in
theorem bX5_isField_58 {p : Program} {l : Launch} {e : Env} {s : State} {m : MethodId} {args : Array Value} {below : List Frame} {meth : Method} {c : Code} {D : va_G} {κ : Nat → ClassId}    {Q : Int32 → Prop} (Cc : Cx D κ RX5 cX5_isField 2 (some .boolean) p s m args meth c)    : ∀ (ls : Array Slot) (hl : lv_has ls 2 []) (h : pX5_isField_58 Q ), W p l e rX5_isField s m args below meth c s.heap [] 0 0 (MQ below (RQ Q) args s 0 0 (fun _ => False)) (F0 m 58 ls []) := by
  obtain ⟨hx, hb, hml, hown, hts, hr, hlk, hE⟩ := id Cc
  intro ls hl h
  unfold pX5_isField_58 at h
  refine lv_iconst (v := 1) hx hb dX5_isField_58 (by decide) ?_
  refine lv_goto (tgt := 63) hx hb dX5_isField_59 (by decide) ?_
  exact bX5_isField_63 Cc 1  _ (lv_sub hl [] rfl) h
set_option maxHeartbeats 4000000 in
set_option maxRecDepth 100000 in
theorem mX5_isField (l : Launch) (D : va_G) (κ : Nat → ClassId)   {x1 : Int32} {x2 : Int32} {Q : Int32 → Prop}  (h : pX5_isField  x1 x2 Q) : Met l yX5_isField (wz yX5_isField cX5_isField 2 (some .boolean)) rX5_isField (va_Pc [.int x1, .int x2] (PE D κ (fun _ => True))) (RQ Q) 0 0 (fun _ => False) := by
  refine Met_of l (own := RX5) (by decide) rfl (Nat.le_of_ble_eq_true rfl) (fun p e s m below meth c Cc hPP ls hl => ?_)
  obtain ⟨hx, hb, hml, hown, hts, hr, hlk, hE⟩ := id Cc
  have hl : lv_has ls 2 [(0, .int x1), (1, .int x2)] := hl
  unfold pX5_isField at h
  refine lv_iload_n hx hb dX5_isField_0 rfl (lv_at hl 0 rfl) ?_
  by_cases c1_0 : x1 = 0
  · have h := h.1 c1_0
    refine lv_tableIn (tgt := 36) hx hb dX5_isField_1 (by rw [c1_0]; decide) (by rw [c1_0]; decide) (by rw [c1_0]; rfl) (by decide) ?_
    refine lv_iload_n hx hb dX5_isField_36 rfl (lv_at hl 1 rfl) ?_
    refine kR (kS Cc (mX5_isKind l D κ h) (qX5_isKind hts (tw_855 hts) ⟨(Nat.le_of_ble_eq_true rfl), (Nat.le_of_ble_eq_true rfl)⟩) (rest := []) trivial rfl hl.1 rfl (Nat.le_of_ble_eq_true rfl) dX5_isField_37 ⟨Nat.zero_le _, Nat.zero_le _⟩) (fun r37 h => ?_)
    exact W.zret (v := r37) (ty := .boolean) hx hb hr (bool_nar h.1) (fun t ht _ => RQ.mk h.2 ht) (fun _ h9 => by cases h9) dX5_isField_40 (hlocks := hlk)
  · have h := h.2
    by_cases c1_1 : x1 = 1
    · have h := h.1 c1_1
      refine lv_tableIn (tgt := 41) hx hb dX5_isField_1 (by rw [c1_1]; decide) (by rw [c1_1]; decide) (by rw [c1_1]; rfl) (by decide) ?_
      exact bX5_isField_41 Cc x2  _ (lv_sub hl [1] rfl) h
    · have h := h.2
      by_cases c1_2 : x1 = 2
      · have h := h.1 c1_2
        refine lv_tableIn (tgt := 41) hx hb dX5_isField_1 (by rw [c1_2]; decide) (by rw [c1_2]; decide) (by rw [c1_2]; rfl) (by decide) ?_
        exact bX5_isField_41 Cc x2  _ (lv_sub hl [1] rfl) h
      · have h := h.2
        by_cases c1_3 : x1 = 3
        · have h := h.1 c1_3
          refine lv_tableIn (tgt := 46) hx hb dX5_isField_1 (by rw [c1_3]; decide) (by rw [c1_3]; decide) (by rw [c1_3]; rfl) (by decide) ?_
          refine lv_iload_n hx hb dX5_isField_46 rfl (lv_at hl 1 rfl) ?_
          refine lv_iconst (v := (-1)) hx hb dX5_isField_47 (by decide) ?_
          refine lv_icmp_eq (tgt := 58) hx hb dX5_isField_48 (by decide) (fun c48 => ?_) (fun c48 => ?_)
          · have h := h.1 c48
            exact bX5_isField_58 Cc   _ (lv_sub hl [] rfl) h
          · have h := h.2 c48
            refine lv_iload_n hx hb dX5_isField_51 rfl (lv_at hl 1 rfl) ?_
            refine kR (kS Cc (mX5_isOne l D κ h) (qX5_isOne hts (tw_835 hts) ⟨(Nat.le_of_ble_eq_true rfl), (Nat.le_of_ble_eq_true rfl)⟩) (rest := []) trivial rfl hl.1 rfl (Nat.le_of_ble_eq_true rfl) dX5_isField_52 ⟨Nat.zero_le _, Nat.zero_le _⟩) (fun r52 h => ?_)
            refine lv_if_eq (tgt := 62) hx hb dX5_isField_55 (by decide) (fun c55 => ?_) (fun c55 => ?_)
            · have h := h.1 c55
              refine lv_iconst (v := 0) hx hb dX5_isField_62 (by decide) ?_
              exact bX5_isField_63 Cc 0  _ (lv_sub hl [] rfl) h
            · have h := h.2 c55
              exact bX5_isField_58 Cc   _ (lv_sub hl [] rfl) h
        · have h := h.2
          by_cases c1_4 : x1 = 4
          · have h := h.1 c1_4
            refine lv_tableIn (tgt := 64) hx hb dX5_isField_1 (by rw [c1_4]; decide) (by rw [c1_4]; decide) (by rw [c1_4]; rfl) (by decide) ?_
            refine lv_iload_n hx hb dX5_isField_64 rfl (lv_at hl 1 rfl) ?_
            refine lv_iconst (v := 0) hx hb dX5_isField_65 (by decide) ?_
            refine lv_iconst (v := 1) hx hb dX5_isField_66 (by decide) ?_
            refine kR (kS Cc (mX5_within l D κ h) (qX5_within hts (tw_832 hts) ⟨(Nat.le_of_ble_eq_true rfl), (Nat.le_of_ble_eq_true rfl)⟩) (rest := []) trivial rfl hl.1 rfl (Nat.le_of_ble_eq_true rfl) dX5_isField_67 ⟨Nat.zero_le _, Nat.zero_le _⟩) (fun r67 h => ?_)
            exact W.zret (v := r67) (ty := .boolean) hx hb hr (bool_nar h.1) (fun t ht _ => RQ.mk h.2 ht) (fun _ h9 => by cases h9) dX5_isField_70 (hlocks := hlk)
          · have h := h.2
            have h := h c1_0 c1_1 c1_2 c1_3 c1_4
            refine lv_tableOut (tgt := 71) hx hb dX5_isField_1 (by have h0 := ne_toInt c1_0 (z := 0) (by decide); have h1 := ne_toInt c1_1 (z := 1) (by decide); have h2 := ne_toInt c1_2 (z := 2) (by decide); have h3 := ne_toInt c1_3 (z := 3) (by decide); have h4 := ne_toInt c1_4 (z := 4) (by decide); omega) (by decide) ?_
            refine lv_iconst (v := 0) hx hb dX5_isField_71 (by decide) ?_
            exact W.zret (v := 0) (ty := .boolean) hx hb hr rfl (fun t ht _ => RQ.mk h ht) (fun _ h9 => by cases h9) dX5_isField_72 (hlocks := hlk)
theorem qX5_isField {R : Room} {s : State} {args : Array Value} {own : String} {idx : Nat} (hts : ∀ w ∈ gG, w.before args s = true) (hl : (Cond.methodLink own idx yX5_isField).before args s = true) (hR : rX5_isField.frames + 1 ≤ R.frames ∧ 8 + (2 + 11) + rX5_isField.locals ≤ R.locals) : CallB R s args own idx yX5_isField cX5_isField 2 (some .boolean) (wz yX5_isField cX5_isField 2 (some .boolean)) rX5_isField 0 0 2 ∧ (Cond.static yX5_isField).before args s = true := ⟨kw 2 hts mw_899 rfl rfl (tw_75 hts) hl (by decide +kernel) hR, tw_898 hts⟩
abbrev rX5_change : Room := { frames := 3, cells := 0, slots := 0, locals := 63 }
def pX5_change_35 (Q : Int32 → Mx → Prop) (y0 : Int32) (σ : Mx) : Prop := Q y0 σ
def pX5_change_29 (Q : Int32 → Mx → Prop) (σ : Mx) : Prop := pX5_finding σ (-1000001) (fun r32 u32 => (pX5_change_35 Q r32 u32))
def pX5_change (σ : Mx) (x1 : Int32) (x2 : Int32) (x3 : Int32) (Q : Int32 → Mx → Prop) : Prop := pX5_isPiece σ x1 (fun r2 => ((r2 = 0 → (pX5_change_29 Q σ)) ∧ (¬ r2 = 0 → (pX5_isField x2 x3 (fun r10 => ((r10 = 0 → (pX5_change_29 Q σ)) ∧ (¬ r10 = 0 → (pX5_pieceAt x1 x2 (fun r19 => (pX5_become σ r19 x3 (fun r23 u23 => (pX5_change_35 Q r23 u23))))))))))))
set_option maxHeartbeats 4000000 in
set_option maxRecDepth 100000 in
theorem bX5_change_35 {p : Program} {l : Launch} {e : Env} {s : State} {m : MethodId} {args : Array Value} {below : List Frame} {meth : Method} {c : Code} {D : va_G} {κ : Nat → ClassId} {τ : Nat → Nat} {a : Nat → Nat}   {Q : Int32 → Mx → Prop} (Cc : Cx D κ RX5 cX5_change 4 (some .int) p s m args meth c) (hIt : Ij a 13)   : ∀ (y0 : Int32) (σ : Mx) (H : Heap) (locs : List Loc) (hPt : va_P D classes (wMo κ τ a σ) H) (hS : va_S (cA a 13) s.heap H locs) (ls : Array Slot) (hl : lv_has ls 4 []) (h : pX5_change_35 Q y0 σ), W p l e rX5_change s m args below meth c H locs 0 0 (MQ below (QWi Q (fun u H => va_P D classes (wMo κ τ a u) H) (cA a 13)) args s 0 0 (cA a 13)) (F0 m 35 ls [.int y0]) := by
  obtain ⟨hx, hb, hml, hown, hts, hr, hlk, hE⟩ := id Cc
  intro y0 σ H locs hPt hS ls hl h
  unfold pX5_change_35 at h
  exact W.iret (v := y0) hx hb hr (fun t ht _ => QWi.mk (u := σ) h hPt hS ht) hS.2.2 dX5_change_35 (hlocks := hlk)
set_option maxHeartbeats 4000000 in
set_option maxRecDepth 100000 in
theorem bX5_change_29 {p : Program} {l : Launch} {e : Env} {s : State} {m : MethodId} {args : Array Value} {below : List Frame} {meth : Method} {c : Code} {D : va_G} {κ : Nat → ClassId} {τ : Nat → Nat} {a : Nat → Nat}   {Q : Int32 → Mx → Prop} (Cc : Cx D κ RX5 cX5_change 4 (some .int) p s m args meth c) (hIt : Ij a 13)   : ∀ (σ : Mx) (H : Heap) (locs : List Loc) (hPt : va_P D classes (wMo κ τ a σ) H) (hS : va_S (cA a 13) s.heap H locs) (ls : Array Slot) (hl : lv_has ls 4 [(0, .ref (a 0))]) (h : pX5_change_29 Q σ), W p l e rX5_change s m args below meth c H locs 0 0 (MQ below (QWi Q (fun u H => va_P D classes (wMo κ τ a u) H) (cA a 13)) args s 0 0 (cA a 13)) (F0 m 29 ls []) := by
  obtain ⟨hx, hb, hml, hown, hts, hr, hlk, hE⟩ := id Cc
  intro σ H locs hPt hS ls hl h
  unfold pX5_change_29 at h
  refine lv_aload_n hx hb dX5_change_29 rfl (lv_at hl 0 rfl) ?_
  refine lv_ldc (own := RX5) (v := (-1000001)) hx hb hown (tw_842 hts) dX5_change_30 ?_
  refine kWi (kV Cc (mX5_finding l D κ τ a hIt h) (qX5_finding hts (tw_843 hts) ⟨(Nat.le_of_ble_eq_true rfl), (Nat.le_of_ble_eq_true rfl)⟩) (va_recv hE.1 hPt (ci := 5) (q0 := 0) rfl rfl) (rest := []) hPt rfl hl.1 rfl (Nat.le_of_ble_eq_true rfl) dX5_change_32 ⟨Nat.zero_le _, Nat.zero_le _⟩) hS (fun q h9 => h9) (fun r32 u32 H1 locs1 h hB hk hS1 => ?_)
  have hPt := hB
  have hS := hS1
  exact bX5_change_35 Cc hIt r32 u32 _ _ hPt hS _ (lv_sub hl [] rfl) h
set_option maxHeartbeats 4000000 in
set_option maxRecDepth 100000 in
theorem mX5_change (l : Launch) (D : va_G) (κ : Nat → ClassId) (τ : Nat → Nat) (a : Nat → Nat) {σ : Mx} {x1 : Int32} {x2 : Int32} {x3 : Int32} {Q : Int32 → Mx → Prop} (hIt : Ij a 13) (h : pX5_change σ x1 x2 x3 Q) : Met l yX5_change (wz yX5_change cX5_change 4 (some .int)) rX5_change (va_Pc [.ref (a 0), .int x1, .int x2, .int x3] (PE D κ (fun H => va_P D classes (wMo κ τ a σ) H))) (QWi Q (fun u H => va_P D classes (wMo κ τ a u) H) (cA a 13)) 0 0 (cA a 13) := by
  refine Met_of l (own := RX5) (by decide) rfl (Nat.le_of_ble_eq_true rfl) (fun p e s m below meth c Cc hPP ls hl => ?_)
  obtain ⟨hx, hb, hml, hown, hts, hr, hlk, hE⟩ := id Cc
  have hl : lv_has ls 4 [(0, .ref (a 0)), (1, .int x1), (2, .int x2), (3, .int x3)] := hl
  have hPt := hPP
  have hS : va_S (cA a 13) s.heap s.heap [] := va_S.rf
  unfold pX5_change at h
  refine lv_aload_n hx hb dX5_change_0 rfl (lv_at hl 0 rfl) ?_
  refine lv_iload_n hx hb dX5_change_1 rfl (lv_at hl 1 rfl) ?_
  refine kR (kV Cc (mX5_isPiece l D κ τ a h) (qX5_isPiece hts (tw_873 hts) ⟨(Nat.le_of_ble_eq_true rfl), (Nat.le_of_ble_eq_true rfl)⟩) (va_recv hE.1 hPt (ci := 5) (q0 := 0) rfl rfl) (rest := []) hPt rfl hl.1 rfl (Nat.le_of_ble_eq_true rfl) dX5_change_2 ⟨Nat.zero_le _, Nat.zero_le _⟩) (fun r2 h => ?_)
  refine lv_if_eq (tgt := 29) hx hb dX5_change_5 (by decide) (fun c5 => ?_) (fun c5 => ?_)
  · have h := h.1 c5
    exact bX5_change_29 Cc hIt σ _ _ hPt hS _ (lv_sub hl [0] rfl) h
  · have h := h.2 c5
    refine lv_iload_n hx hb dX5_change_8 rfl (lv_at hl 2 rfl) ?_
    refine lv_iload_n hx hb dX5_change_9 rfl (lv_at hl 3 rfl) ?_
    refine kR (kS Cc (mX5_isField l D κ h) (qX5_isField hts (tw_897 hts) ⟨(Nat.le_of_ble_eq_true rfl), (Nat.le_of_ble_eq_true rfl)⟩) (rest := []) trivial rfl hl.1 rfl (Nat.le_of_ble_eq_true rfl) dX5_change_10 ⟨Nat.zero_le _, Nat.zero_le _⟩) (fun r10 h => ?_)
    refine lv_if_eq (tgt := 29) hx hb dX5_change_13 (by decide) (fun c13 => ?_) (fun c13 => ?_)
    · have h := h.1 c13
      exact bX5_change_29 Cc hIt σ _ _ hPt hS _ (lv_sub hl [0] rfl) h
    · have h := h.2 c13
      refine lv_aload_n hx hb dX5_change_16 rfl (lv_at hl 0 rfl) ?_
      refine lv_iload_n hx hb dX5_change_17 rfl (lv_at hl 1 rfl) ?_
      refine lv_iload_n hx hb dX5_change_18 rfl (lv_at hl 2 rfl) ?_
      refine kR (kS Cc (mX5_pieceAt l D κ h) (qX5_pieceAt hts (tw_866 hts) ⟨(Nat.le_of_ble_eq_true rfl), (Nat.le_of_ble_eq_true rfl)⟩) (rest := [.ref (a 0)]) trivial rfl hl.1 rfl (Nat.le_of_ble_eq_true rfl) dX5_change_19 ⟨Nat.zero_le _, Nat.zero_le _⟩) (fun r19 h => ?_)
      refine lv_iload_n hx hb dX5_change_22 rfl (lv_at hl 3 rfl) ?_
      refine kWi (kV Cc (mX5_become l D κ τ a hIt h) (qX5_become hts (tw_838 hts) ⟨(Nat.le_of_ble_eq_true rfl), (Nat.le_of_ble_eq_true rfl)⟩) (va_recv hE.1 hPt (ci := 5) (q0 := 0) rfl rfl) (rest := []) hPt rfl hl.1 rfl (Nat.le_of_ble_eq_true rfl) dX5_change_23 ⟨Nat.zero_le _, Nat.zero_le _⟩) hS (fun q h9 => h9) (fun r23 u23 H1 locs1 h hB hk hS1 => ?_)
      have hPt := hB
      have hS := hS1
      refine lv_goto (tgt := 35) hx hb dX5_change_26 (by decide) ?_
      exact bX5_change_35 Cc hIt r23 u23 _ _ hPt hS _ (lv_sub hl [] rfl) h
theorem qX5_change {R : Room} {s : State} {args : Array Value} {own : String} {idx : Nat} (hts : ∀ w ∈ gG, w.before args s = true) (hl : (Cond.methodLink own idx yX5_change).before args s = true) (hR : rX5_change.frames + 1 ≤ R.frames ∧ 8 + (4 + 11) + rX5_change.locals ≤ R.locals) : CallW R s args own RX5 idx yX5_change cX5_change 4 (some .int) (wz yX5_change cX5_change 4 (some .int)) rX5_change 0 0 3 := ⟨kw 3 hts mw_896 rfl rfl (tw_75 hts) hl (by decide +kernel) hR, tw_894 hts, tw_895 hts⟩
abbrev rX5_lies : Room := { frames := 2, cells := 0, slots := 0, locals := 43 }
def pX5_lies_26 (Q : Int32 → Mx → Prop) (y0 : Int32) (σ : Mx) : Prop := Q y0 σ
def pX5_lies (σ : Mx) (x1 : Int32) (Q : Int32 → Mx → Prop) : Prop := pX5_isPiece σ x1 (fun r2 => ((r2 = 0 → (pX5_finding σ (-1000001) (fun r23 u23 => (pX5_lies_26 Q r23 u23)))) ∧ (¬ r2 = 0 → (vp_in (59 + x1) 67 ∧ (pX5_lies_26 Q (σ 0 (59 + x1).toNatClampNeg) σ)))))
set_option maxHeartbeats 4000000 in
set_option maxRecDepth 100000 in
theorem bX5_lies_26 {p : Program} {l : Launch} {e : Env} {s : State} {m : MethodId} {args : Array Value} {below : List Frame} {meth : Method} {c : Code} {D : va_G} {κ : Nat → ClassId} {τ : Nat → Nat} {a : Nat → Nat}   {Q : Int32 → Mx → Prop} (Cc : Cx D κ RX5 cX5_lies 2 (some .int) p s m args meth c) (hIt : Ij a 13)   : ∀ (y0 : Int32) (σ : Mx) (H : Heap) (locs : List Loc) (hPt : va_P D classes (wMo κ τ a σ) H) (hS : va_S (cA a 13) s.heap H locs) (ls : Array Slot) (hl : lv_has ls 2 []) (h : pX5_lies_26 Q y0 σ), W p l e rX5_lies s m args below meth c H locs 0 0 (MQ below (QWi Q (fun u H => va_P D classes (wMo κ τ a u) H) (cA a 13)) args s 0 0 (cA a 13)) (F0 m 26 ls [.int y0]) := by
  obtain ⟨hx, hb, hml, hown, hts, hr, hlk, hE⟩ := id Cc
  intro y0 σ H locs hPt hS ls hl h
  unfold pX5_lies_26 at h
  exact W.iret (v := y0) hx hb hr (fun t ht _ => QWi.mk (u := σ) h hPt hS ht) hS.2.2 dX5_lies_26 (hlocks := hlk)
set_option maxHeartbeats 4000000 in
set_option maxRecDepth 100000 in
theorem mX5_lies (l : Launch) (D : va_G) (κ : Nat → ClassId) (τ : Nat → Nat) (a : Nat → Nat) {σ : Mx} {x1 : Int32} {Q : Int32 → Mx → Prop} (hIt : Ij a 13) (h : pX5_lies σ x1 Q) : Met l yX5_lies (wz yX5_lies cX5_lies 2 (some .int)) rX5_lies (va_Pc [.ref (a 0), .int x1] (PE D κ (fun H => va_P D classes (wMo κ τ a σ) H))) (QWi Q (fun u H => va_P D classes (wMo κ τ a u) H) (cA a 13)) 0 0 (cA a 13) := by
  refine Met_of l (own := RX5) (by decide) rfl (Nat.le_of_ble_eq_true rfl) (fun p e s m below meth c Cc hPP ls hl => ?_)
  obtain ⟨hx, hb, hml, hown, hts, hr, hlk, hE⟩ := id Cc
  have hl : lv_has ls 2 [(0, .ref (a 0)), (1, .int x1)] := hl
  have hPt := hPP
  have hS : va_S (cA a 13) s.heap s.heap [] := va_S.rf
  unfold pX5_lies at h
  refine lv_aload_n hx hb dX5_lies_0 rfl (lv_at hl 0 rfl) ?_
  refine lv_iload_n hx hb dX5_lies_1 rfl (lv_at hl 1 rfl) ?_
  refine kR (kV Cc (mX5_isPiece l D κ τ a h) (qX5_isPiece hts (tw_873 hts) ⟨(Nat.le_of_ble_eq_true rfl), (Nat.le_of_ble_eq_true rfl)⟩) (va_recv hE.1 hPt (ci := 5) (q0 := 0) rfl rfl) (rest := []) hPt rfl hl.1 rfl (Nat.le_of_ble_eq_true rfl) dX5_lies_2 ⟨Nat.zero_le _, Nat.zero_le _⟩) (fun r2 h => ?_)
  refine lv_if_eq (tgt := 20) hx hb dX5_lies_5 (by decide) (fun c5 => ?_) (fun c5 => ?_)
  · have h := h.1 c5
    refine lv_aload_n hx hb dX5_lies_20 rfl (lv_at hl 0 rfl) ?_
    refine lv_ldc (own := RX5) (v := (-1000001)) hx hb hown (tw_842 hts) dX5_lies_21 ?_
    refine kWi (kV Cc (mX5_finding l D κ τ a hIt h) (qX5_finding hts (tw_843 hts) ⟨(Nat.le_of_ble_eq_true rfl), (Nat.le_of_ble_eq_true rfl)⟩) (va_recv hE.1 hPt (ci := 5) (q0 := 0) rfl rfl) (rest := []) hPt rfl hl.1 rfl (Nat.le_of_ble_eq_true rfl) dX5_lies_23 ⟨Nat.zero_le _, Nat.zero_le _⟩) hS (fun q h9 => h9) (fun r23 u23 H1 locs1 h hB hk hS1 => ?_)
    have hPt := hB
    have hS := hS1
    exact bX5_lies_26 Cc hIt r23 u23 _ _ hPt hS _ (lv_sub hl [] rfl) h
  · have h := h.2 c5
    refine lv_aload_n hx hb dX5_lies_8 rfl (lv_at hl 0 rfl) ?_
    refine gMo_0 Cc hPt (tw_761 hts) dX5_lies_9 ?_
    refine lv_bipush (v := 59) hx hb dX5_lies_12 (by decide) ?_
    refine lv_iload_n hx hb dX5_lies_14 rfl (lv_at hl 1 rfl) ?_
    refine lv_iadd hx hb dX5_lies_15 ?_
    refine lMo_0 Cc hPt h.1 dX5_lies_16 ?_
    have h := h.2
    refine lv_goto (tgt := 26) hx hb dX5_lies_17 (by decide) ?_
    exact bX5_lies_26 Cc hIt (σ 0 (59 + x1).toNatClampNeg) σ _ _ hPt hS _ (lv_sub hl [] rfl) h
theorem qX5_lies {R : Room} {s : State} {args : Array Value} {own : String} {idx : Nat} (hts : ∀ w ∈ gG, w.before args s = true) (hl : (Cond.methodLink own idx yX5_lies).before args s = true) (hR : rX5_lies.frames + 1 ≤ R.frames ∧ 8 + (2 + 11) + rX5_lies.locals ≤ R.locals) : CallW R s args own RX5 idx yX5_lies cX5_lies 2 (some .int) (wz yX5_lies cX5_lies 2 (some .int)) rX5_lies 0 0 1 := ⟨kw 1 hts mw_903 rfl rfl (tw_75 hts) hl (by decide +kernel) hR, tw_901 hts, tw_902 hts⟩
abbrev rX5_side : Room := { frames := 2, cells := 0, slots := 0, locals := 43 }
def pX5_side_17 (σ : Mx) (Q : Int32 → Prop) (y0 : Int32) (y1 : Int32) : Prop := pX5_pieceIs σ y1 y0 (fun r17 => (Q r17))
def pX5_side (σ : Mx) (x1 : Int32) (x2 : Int32) (Q : Int32 → Prop) : Prop := pX5_pieceIs σ x1 4 (fun r5 => ((¬ r5 = x2 → (pX5_side_17 σ Q 2 x1)) ∧ (r5 = x2 → (pX5_side_17 σ Q 1 x1))))
set_option maxHeartbeats 4000000 in
set_option maxRecDepth 100000 in
theorem bX5_side_17 {p : Program} {l : Launch} {e : Env} {s : State} {m : MethodId} {args : Array Value} {below : List Frame} {meth : Method} {c : Code} {D : va_G} {κ : Nat → ClassId} {τ : Nat → Nat} {a : Nat → Nat} {σ : Mx}  {Q : Int32 → Prop} (Cc : Cx D κ RX5 cX5_side 3 (some .int) p s m args meth c)  (hPt : va_P D classes (wMo κ τ a σ) s.heap)  : ∀ (y0 : Int32) (y1 : Int32) (ls : Array Slot) (hl : lv_has ls 3 []) (h : pX5_side_17 σ Q y0 y1), W p l e rX5_side s m args below meth c s.heap [] 0 0 (MQ below (RQ Q) args s 0 0 (fun _ => False)) (F0 m 17 ls [.int y0, .int y1, .ref (a 0)]) := by
  obtain ⟨hx, hb, hml, hown, hts, hr, hlk, hE⟩ := id Cc
  intro y0 y1 ls hl h
  unfold pX5_side_17 at h
  refine kR (kV Cc (mX5_pieceIs l D κ τ a h) (qX5_pieceIs hts (tw_889 hts) ⟨(Nat.le_of_ble_eq_true rfl), (Nat.le_of_ble_eq_true rfl)⟩) (va_recv hE.1 hPt (ci := 5) (q0 := 0) rfl rfl) (rest := []) hPt rfl hl.1 rfl (Nat.le_of_ble_eq_true rfl) dX5_side_17 ⟨Nat.zero_le _, Nat.zero_le _⟩) (fun r17 h => ?_)
  exact W.iret (v := r17) hx hb hr (fun t ht _ => RQ.mk h ht) (fun _ h9 => by cases h9) dX5_side_20 (hlocks := hlk)
set_option maxHeartbeats 4000000 in
set_option maxRecDepth 100000 in
theorem mX5_side (l : Launch) (D : va_G) (κ : Nat → ClassId) (τ : Nat → Nat) (a : Nat → Nat) {σ : Mx} {x1 : Int32} {x2 : Int32} {Q : Int32 → Prop}  (h : pX5_side σ x1 x2 Q) : Met l yX5_side (wz yX5_side cX5_side 3 (some .int)) rX5_side (va_Pc [.ref (a 0), .int x1, .int x2] (PE D κ (fun H => va_P D classes (wMo κ τ a σ) H))) (RQ Q) 0 0 (fun _ => False) := by
  refine Met_of l (own := RX5) (by decide) rfl (Nat.le_of_ble_eq_true rfl) (fun p e s m below meth c Cc hPP ls hl => ?_)
  obtain ⟨hx, hb, hml, hown, hts, hr, hlk, hE⟩ := id Cc
  have hl : lv_has ls 3 [(0, .ref (a 0)), (1, .int x1), (2, .int x2)] := hl
  have hPt := hPP
  unfold pX5_side at h
  refine lv_aload_n hx hb dX5_side_0 rfl (lv_at hl 0 rfl) ?_
  refine lv_iload_n hx hb dX5_side_1 rfl (lv_at hl 1 rfl) ?_
  refine lv_aload_n hx hb dX5_side_2 rfl (lv_at hl 0 rfl) ?_
  refine lv_iload_n hx hb dX5_side_3 rfl (lv_at hl 1 rfl) ?_
  refine lv_iconst (v := 4) hx hb dX5_side_4 (by decide) ?_
  refine kR (kV Cc (mX5_pieceIs l D κ τ a h) (qX5_pieceIs hts (tw_889 hts) ⟨(Nat.le_of_ble_eq_true rfl), (Nat.le_of_ble_eq_true rfl)⟩) (va_recv hE.1 hPt (ci := 5) (q0 := 0) rfl rfl) (rest := [.int x1, .ref (a 0)]) hPt rfl hl.1 rfl (Nat.le_of_ble_eq_true rfl) dX5_side_5 ⟨Nat.zero_le _, Nat.zero_le _⟩) (fun r5 h => ?_)
  refine lv_iload_n hx hb dX5_side_8 rfl (lv_at hl 2 rfl) ?_
  refine lv_icmp_ne (tgt := 16) hx hb dX5_side_9 (by decide) (fun c9 => ?_) (fun c9 => ?_)
  · have h := h.1 c9
    refine lv_iconst (v := 2) hx hb dX5_side_16 (by decide) ?_
    exact bX5_side_17 Cc hPt 2 x1  _ (lv_sub hl [] rfl) h
  · have h := h.2 c9
    refine lv_iconst (v := 1) hx hb dX5_side_12 (by decide) ?_
    refine lv_goto (tgt := 17) hx hb dX5_side_13 (by decide) ?_
    exact bX5_side_17 Cc hPt 1 x1  _ (lv_sub hl [] rfl) h
theorem qX5_side {R : Room} {s : State} {args : Array Value} {own : String} {idx : Nat} (hts : ∀ w ∈ gG, w.before args s = true) (hl : (Cond.methodLink own idx yX5_side).before args s = true) (hR : rX5_side.frames + 1 ≤ R.frames ∧ 8 + (3 + 11) + rX5_side.locals ≤ R.locals) : CallW R s args own RX5 idx yX5_side cX5_side 3 (some .int) (wz yX5_side cX5_side 3 (some .int)) rX5_side 0 0 2 := ⟨kw 2 hts mw_915 rfl rfl (tw_75 hts) hl (by decide +kernel) hR, tw_914 hts, tw_32 hts⟩
abbrev rX5_isSky : Room := { frames := 2, cells := 0, slots := 0, locals := 43 }
def pX5_isSky (σ : Mx) (x1 : Int32) (Q : Int32 → Prop) : Prop := pX5_pieceIs σ x1 0 (fun r3 => (pX5_within r3 2 4 (fun r8 => ((r8 = 0 ∨ r8 = 1) ∧ (Q r8)))))
set_option maxHeartbeats 4000000 in
set_option maxRecDepth 100000 in
theorem mX5_isSky (l : Launch) (D : va_G) (κ : Nat → ClassId) (τ : Nat → Nat) (a : Nat → Nat) {σ : Mx} {x1 : Int32} {Q : Int32 → Prop}  (h : pX5_isSky σ x1 Q) : Met l yX5_isSky (wz yX5_isSky cX5_isSky 2 (some .boolean)) rX5_isSky (va_Pc [.ref (a 0), .int x1] (PE D κ (fun H => va_P D classes (wMo κ τ a σ) H))) (RQ Q) 0 0 (fun _ => False) := by
  refine Met_of l (own := RX5) (by decide) rfl (Nat.le_of_ble_eq_true rfl) (fun p e s m below meth c Cc hPP ls hl => ?_)
  obtain ⟨hx, hb, hml, hown, hts, hr, hlk, hE⟩ := id Cc
  have hl : lv_has ls 2 [(0, .ref (a 0)), (1, .int x1)] := hl
  have hPt := hPP
  unfold pX5_isSky at h
  refine lv_aload_n hx hb dX5_isSky_0 rfl (lv_at hl 0 rfl) ?_
  refine lv_iload_n hx hb dX5_isSky_1 rfl (lv_at hl 1 rfl) ?_
  refine lv_iconst (v := 0) hx hb dX5_isSky_2 (by decide) ?_
  refine kR (kV Cc (mX5_pieceIs l D κ τ a h) (qX5_pieceIs hts (tw_889 hts) ⟨(Nat.le_of_ble_eq_true rfl), (Nat.le_of_ble_eq_true rfl)⟩) (va_recv hE.1 hPt (ci := 5) (q0 := 0) rfl rfl) (rest := []) hPt rfl hl.1 rfl (Nat.le_of_ble_eq_true rfl) dX5_isSky_3 ⟨Nat.zero_le _, Nat.zero_le _⟩) (fun r3 h => ?_)
  refine lv_iconst (v := 2) hx hb dX5_isSky_6 (by decide) ?_
  refine lv_iconst (v := 4) hx hb dX5_isSky_7 (by decide) ?_
  refine kR (kS Cc (mX5_within l D κ h) (qX5_within hts (tw_832 hts) ⟨(Nat.le_of_ble_eq_true rfl), (Nat.le_of_ble_eq_true rfl)⟩) (rest := []) trivial rfl hl.1 rfl (Nat.le_of_ble_eq_true rfl) dX5_isSky_8 ⟨Nat.zero_le _, Nat.zero_le _⟩) (fun r8 h => ?_)
  exact W.zret (v := r8) (ty := .boolean) hx hb hr (bool_nar h.1) (fun t ht _ => RQ.mk h.2 ht) (fun _ h9 => by cases h9) dX5_isSky_11 (hlocks := hlk)
theorem qX5_isSky {R : Room} {s : State} {args : Array Value} {own : String} {idx : Nat} (hts : ∀ w ∈ gG, w.before args s = true) (hl : (Cond.methodLink own idx yX5_isSky).before args s = true) (hR : rX5_isSky.frames + 1 ≤ R.frames ∧ 8 + (2 + 11) + rX5_isSky.locals ≤ R.locals) : CallW R s args own RX5 idx yX5_isSky cX5_isSky 2 (some .boolean) (wz yX5_isSky cX5_isSky 2 (some .boolean)) rX5_isSky 0 0 1 := ⟨kw 1 hts mw_920 rfl rfl (tw_75 hts) hl (by decide +kernel) hR, tw_919 hts, tw_33 hts⟩
abbrev rX5_gapOf : Room := { frames := 3, cells := 0, slots := 0, locals := 65 }
def pX5_gapOf_135 (σ : Mx) (Q : Int32 → Prop) (y0 : Int32) : Prop := Q y0
def pX5_gapOf_49 (σ : Mx) (Q : Int32 → Prop) (x1 : Int32) (x3 : Int32) (x4 : Int32) (y0 : Int32) : Prop := pX5_pieceIs σ x1 0 (fun r54 => ((r54 = 1 → (Q x4)) ∧ (r54 = 2 → (Q y0)) ∧ (r54 = 3 → (Q (y0 / 2))) ∧ (r54 = 4 → (vp_in 0 67 ∧ (Q ((y0 / 2) + ((σ 0 (0 : Int32).toNatClampNeg) - (σ 0 (0 : Int32).toNatClampNeg) / 3 * 3))))) ∧ (r54 = 5 → ((x3 ≤ 0 → (pX5_gapOf_135 σ Q 0)) ∧ (¬ x3 ≤ 0 → (pX5_gapOf_135 σ Q 1)))) ∧ (r54 = 6 → (Q (x4 + 2))) ∧ (¬ r54 = 1 → ¬ r54 = 2 → ¬ r54 = 3 → ¬ r54 = 4 → ¬ r54 = 5 → ¬ r54 = 6 → (Q x3))))
def pX5_gapOf_32 (σ : Mx) (Q : Int32 → Prop) (x1 : Int32) (x2 : Int32) (x3 : Int32) (y0 : Int32) : Prop := pX5_isSky σ x2 (fun r36 => ((r36 = 0 → (pX5_gapOf_49 σ Q x1 x3 y0 (x3 + 1))) ∧ (¬ r36 = 0 → (pX5_gapOf_49 σ Q x1 x3 y0 0))))
def pX5_gapOf (σ : Mx) (x1 : Int32) (x2 : Int32) (Q : Int32 → Prop) : Prop := pX5_side σ x1 1 (fun r3 => (pX5_side σ x2 0 (fun r9 => (∀ v13 : Int32, v13 = (if 0 ≤ (r3 - r9) then (r3 - r9) else 0 - (r3 - r9)) → (pX5_pieceIs σ x1 3 (fun r20 => ((¬ r20 = x2 → (pX5_gapOf_32 σ Q x1 x2 v13 v13)) ∧ (r20 = x2 → (pX5_gapOf_32 σ Q x1 x2 v13 0)))))))))
set_option maxHeartbeats 4000000 in
set_option maxRecDepth 100000 in
theorem bX5_gapOf_135 {p : Program} {l : Launch} {e : Env} {s : State} {m : MethodId} {args : Array Value} {below : List Frame} {meth : Method} {c : Code} {D : va_G} {κ : Nat → ClassId} {τ : Nat → Nat} {a : Nat → Nat} {σ : Mx}  {Q : Int32 → Prop} (Cc : Cx D κ RX5 cX5_gapOf 6 (some .int) p s m args meth c)  (hPt : va_P D classes (wMo κ τ a σ) s.heap)  : ∀ (y0 : Int32) (ls : Array Slot) (hl : lv_has ls 6 []) (h : pX5_gapOf_135 σ Q y0), W p l e rX5_gapOf s m args below meth c s.heap [] 0 0 (MQ below (RQ Q) args s 0 0 (fun _ => False)) (F0 m 135 ls [.int y0]) := by
  obtain ⟨hx, hb, hml, hown, hts, hr, hlk, hE⟩ := id Cc
  intro y0 ls hl h
  unfold pX5_gapOf_135 at h
  exact W.iret (v := y0) hx hb hr (fun t ht _ => RQ.mk h ht) (fun _ h9 => by cases h9) dX5_gapOf_135 (hlocks := hlk)
set_option maxHeartbeats 4000000 in
set_option maxRecDepth 100000 in
theorem bX5_gapOf_49 {p : Program} {l : Launch} {e : Env} {s : State} {m : MethodId} {args : Array Value} {below : List Frame} {meth : Method} {c : Code} {D : va_G} {κ : Nat → ClassId} {τ : Nat → Nat} {a : Nat → Nat} {σ : Mx}  {Q : Int32 → Prop} (Cc : Cx D κ RX5 cX5_gapOf 6 (some .int) p s m args meth c)  (hPt : va_P D classes (wMo κ τ a σ) s.heap)  : ∀ (x1 : Int32) (x3 : Int32) (x4 : Int32) (y0 : Int32) (ls : Array Slot) (hl : lv_has ls 6 [(0, .ref (a 0)), (1, .int x1), (3, .int x3), (4, .int x4)]) (h : pX5_gapOf_49 σ Q x1 x3 x4 y0), W p l e rX5_gapOf s m args below meth c s.heap [] 0 0 (MQ below (RQ Q) args s 0 0 (fun _ => False)) (F0 m 49 ls [.int y0]) := by
  obtain ⟨hx, hb, hml, hown, hts, hr, hlk, hE⟩ := id Cc
  intro x1 x3 x4 y0 ls hl h
  unfold pX5_gapOf_49 at h
  refine lv_istore (lv' := [(5, .int y0), (0, .ref (a 0)), (1, .int x1), (3, .int x3), (4, .int x4)]) hx hb dX5_gapOf_49 hl (by decide) rfl (fun ls hl => ?_)
  refine lv_aload_n hx hb dX5_gapOf_51 rfl (lv_at hl 1 rfl) ?_
  refine lv_iload_n hx hb dX5_gapOf_52 rfl (lv_at hl 2 rfl) ?_
  refine lv_iconst (v := 0) hx hb dX5_gapOf_53 (by decide) ?_
  refine kR (kV Cc (mX5_pieceIs l D κ τ a h) (qX5_pieceIs hts (tw_889 hts) ⟨(Nat.le_of_ble_eq_true rfl), (Nat.le_of_ble_eq_true rfl)⟩) (va_recv hE.1 hPt (ci := 5) (q0 := 0) rfl rfl) (rest := []) hPt rfl hl.1 rfl (Nat.le_of_ble_eq_true rfl) dX5_gapOf_54 ⟨Nat.zero_le _, Nat.zero_le _⟩) (fun r54 h => ?_)
  by_cases c57_1 : r54 = 1
  · have h := h.1 c57_1
    refine lv_tableIn (tgt := 96) hx hb dX5_gapOf_57 (by rw [c57_1]; decide) (by rw [c57_1]; decide) (by rw [c57_1]; rfl) (by decide) ?_
    refine lv_iload hx hb dX5_gapOf_96 (lv_at hl 4 rfl) ?_
    exact W.iret (v := x4) hx hb hr (fun t ht _ => RQ.mk h ht) (fun _ h9 => by cases h9) dX5_gapOf_98 (hlocks := hlk)
  · have h := h.2
    by_cases c57_2 : r54 = 2
    · have h := h.1 c57_2
      refine lv_tableIn (tgt := 104) hx hb dX5_gapOf_57 (by rw [c57_2]; decide) (by rw [c57_2]; decide) (by rw [c57_2]; rfl) (by decide) ?_
      refine lv_iload hx hb dX5_gapOf_104 (lv_at hl 0 rfl) ?_
      exact W.iret (v := y0) hx hb hr (fun t ht _ => RQ.mk h ht) (fun _ h9 => by cases h9) dX5_gapOf_106 (hlocks := hlk)
    · have h := h.2
      by_cases c57_3 : r54 = 3
      · have h := h.1 c57_3
        refine lv_tableIn (tgt := 107) hx hb dX5_gapOf_57 (by rw [c57_3]; decide) (by rw [c57_3]; decide) (by rw [c57_3]; rfl) (by decide) ?_
        refine lv_iload hx hb dX5_gapOf_107 (lv_at hl 0 rfl) ?_
        refine lv_iconst (v := 2) hx hb dX5_gapOf_109 (by decide) ?_
        refine lv_idiv hx hb dX5_gapOf_110 (by decide) ?_
        exact W.iret (v := (y0 / 2)) hx hb hr (fun t ht _ => RQ.mk h ht) (fun _ h9 => by cases h9) dX5_gapOf_111 (hlocks := hlk)
      · have h := h.2
        by_cases c57_4 : r54 = 4
        · have h := h.1 c57_4
          refine lv_tableIn (tgt := 112) hx hb dX5_gapOf_57 (by rw [c57_4]; decide) (by rw [c57_4]; decide) (by rw [c57_4]; rfl) (by decide) ?_
          refine lv_iload hx hb dX5_gapOf_112 (lv_at hl 0 rfl) ?_
          refine lv_iconst (v := 2) hx hb dX5_gapOf_114 (by decide) ?_
          refine lv_idiv hx hb dX5_gapOf_115 (by decide) ?_
          refine lv_aload_n hx hb dX5_gapOf_116 rfl (lv_at hl 1 rfl) ?_
          refine gMo_0 Cc hPt (tw_761 hts) dX5_gapOf_117 ?_
          refine lv_iconst (v := 0) hx hb dX5_gapOf_120 (by decide) ?_
          refine lMo_0 Cc hPt h.1 dX5_gapOf_121 ?_
          have h := h.2
          refine lv_iconst (v := 3) hx hb dX5_gapOf_122 (by decide) ?_
          refine lv_irem hx hb dX5_gapOf_123 (by decide) ?_
          refine lv_iadd hx hb dX5_gapOf_124 ?_
          exact W.iret (v := ((y0 / 2) + ((σ 0 (0 : Int32).toNatClampNeg) - (σ 0 (0 : Int32).toNatClampNeg) / 3 * 3))) hx hb hr (fun t ht _ => RQ.mk h ht) (fun _ h9 => by cases h9) dX5_gapOf_125 (hlocks := hlk)
        · have h := h.2
          by_cases c57_5 : r54 = 5
          · have h := h.1 c57_5
            refine lv_tableIn (tgt := 126) hx hb dX5_gapOf_57 (by rw [c57_5]; decide) (by rw [c57_5]; decide) (by rw [c57_5]; rfl) (by decide) ?_
            refine lv_iload_n hx hb dX5_gapOf_126 rfl (lv_at hl 3 rfl) ?_
            refine lv_if_le (tgt := 134) hx hb dX5_gapOf_127 (by decide) (fun c127 => ?_) (fun c127 => ?_)
            · have h := h.1 c127
              refine lv_iconst (v := 0) hx hb dX5_gapOf_134 (by decide) ?_
              exact bX5_gapOf_135 Cc hPt 0  _ (lv_sub hl [] rfl) h
            · have h := h.2 c127
              refine lv_iconst (v := 1) hx hb dX5_gapOf_130 (by decide) ?_
              refine lv_goto (tgt := 135) hx hb dX5_gapOf_131 (by decide) ?_
              exact bX5_gapOf_135 Cc hPt 1  _ (lv_sub hl [] rfl) h
          · have h := h.2
            by_cases c57_6 : r54 = 6
            · have h := h.1 c57_6
              refine lv_tableIn (tgt := 99) hx hb dX5_gapOf_57 (by rw [c57_6]; decide) (by rw [c57_6]; decide) (by rw [c57_6]; rfl) (by decide) ?_
              refine lv_iload hx hb dX5_gapOf_99 (lv_at hl 4 rfl) ?_
              refine lv_iconst (v := 2) hx hb dX5_gapOf_101 (by decide) ?_
              refine lv_iadd hx hb dX5_gapOf_102 ?_
              exact W.iret (v := (x4 + 2)) hx hb hr (fun t ht _ => RQ.mk h ht) (fun _ h9 => by cases h9) dX5_gapOf_103 (hlocks := hlk)
            · have h := h.2
              have h := h c57_1 c57_2 c57_3 c57_4 c57_5 c57_6
              refine lv_tableOut (tgt := 136) hx hb dX5_gapOf_57 (by have h1 := ne_toInt c57_1 (z := 1) (by decide); have h2 := ne_toInt c57_2 (z := 2) (by decide); have h3 := ne_toInt c57_3 (z := 3) (by decide); have h4 := ne_toInt c57_4 (z := 4) (by decide); have h5 := ne_toInt c57_5 (z := 5) (by decide); have h6 := ne_toInt c57_6 (z := 6) (by decide); omega) (by decide) ?_
              refine lv_iload_n hx hb dX5_gapOf_136 rfl (lv_at hl 3 rfl) ?_
              exact W.iret (v := x3) hx hb hr (fun t ht _ => RQ.mk h ht) (fun _ h9 => by cases h9) dX5_gapOf_137 (hlocks := hlk)
set_option maxHeartbeats 4000000 in
set_option maxRecDepth 100000 in
theorem bX5_gapOf_32 {p : Program} {l : Launch} {e : Env} {s : State} {m : MethodId} {args : Array Value} {below : List Frame} {meth : Method} {c : Code} {D : va_G} {κ : Nat → ClassId} {τ : Nat → Nat} {a : Nat → Nat} {σ : Mx}  {Q : Int32 → Prop} (Cc : Cx D κ RX5 cX5_gapOf 6 (some .int) p s m args meth c)  (hPt : va_P D classes (wMo κ τ a σ) s.heap)  : ∀ (x1 : Int32) (x2 : Int32) (x3 : Int32) (y0 : Int32) (ls : Array Slot) (hl : lv_has ls 6 [(0, .ref (a 0)), (1, .int x1), (2, .int x2), (3, .int x3)]) (h : pX5_gapOf_32 σ Q x1 x2 x3 y0), W p l e rX5_gapOf s m args below meth c s.heap [] 0 0 (MQ below (RQ Q) args s 0 0 (fun _ => False)) (F0 m 32 ls [.int y0]) := by
  obtain ⟨hx, hb, hml, hown, hts, hr, hlk, hE⟩ := id Cc
  intro x1 x2 x3 y0 ls hl h
  unfold pX5_gapOf_32 at h
  refine lv_istore (lv' := [(4, .int y0), (0, .ref (a 0)), (1, .int x1), (2, .int x2), (3, .int x3)]) hx hb dX5_gapOf_32 hl (by decide) rfl (fun ls hl => ?_)
  refine lv_aload_n hx hb dX5_gapOf_34 rfl (lv_at hl 1 rfl) ?_
  refine lv_iload_n hx hb dX5_gapOf_35 rfl (lv_at hl 3 rfl) ?_
  refine kR (kV Cc (mX5_isSky l D κ τ a h) (qX5_isSky hts (tw_917 hts) ⟨(Nat.le_of_ble_eq_true rfl), (Nat.le_of_ble_eq_true rfl)⟩) (va_recv hE.1 hPt (ci := 5) (q0 := 0) rfl rfl) (rest := []) hPt rfl hl.1 rfl (Nat.le_of_ble_eq_true rfl) dX5_gapOf_36 ⟨Nat.zero_le _, Nat.zero_le _⟩) (fun r36 h => ?_)
  refine lv_if_eq (tgt := 46) hx hb dX5_gapOf_39 (by decide) (fun c39 => ?_) (fun c39 => ?_)
  · have h := h.1 c39
    refine lv_iload_n hx hb dX5_gapOf_46 rfl (lv_at hl 4 rfl) ?_
    refine lv_iconst (v := 1) hx hb dX5_gapOf_47 (by decide) ?_
    refine lv_iadd hx hb dX5_gapOf_48 ?_
    exact bX5_gapOf_49 Cc hPt x1 x3 y0 (x3 + 1)  _ (lv_sub hl [1, 2, 4, 0] rfl) h
  · have h := h.2 c39
    refine lv_iconst (v := 0) hx hb dX5_gapOf_42 (by decide) ?_
    refine lv_goto (tgt := 49) hx hb dX5_gapOf_43 (by decide) ?_
    exact bX5_gapOf_49 Cc hPt x1 x3 y0 0  _ (lv_sub hl [1, 2, 4, 0] rfl) h
set_option maxHeartbeats 4000000 in
set_option maxRecDepth 100000 in
theorem mX5_gapOf (l : Launch) (D : va_G) (κ : Nat → ClassId) (τ : Nat → Nat) (a : Nat → Nat) {σ : Mx} {x1 : Int32} {x2 : Int32} {Q : Int32 → Prop}  (h : pX5_gapOf σ x1 x2 Q) : Met l yX5_gapOf (wz yX5_gapOf cX5_gapOf 6 (some .int)) rX5_gapOf (va_Pc [.ref (a 0), .int x1, .int x2] (PE D κ (fun H => va_P D classes (wMo κ τ a σ) H))) (RQ Q) 0 0 (fun _ => False) := by
  refine Met_of l (own := RX5) (by decide) rfl (Nat.le_of_ble_eq_true rfl) (fun p e s m below meth c Cc hPP ls hl => ?_)
  obtain ⟨hx, hb, hml, hown, hts, hr, hlk, hE⟩ := id Cc
  have hl : lv_has ls 6 [(0, .ref (a 0)), (1, .int x1), (2, .int x2)] := hl
  have hPt := hPP
  unfold pX5_gapOf at h
  refine lv_aload_n hx hb dX5_gapOf_0 rfl (lv_at hl 0 rfl) ?_
  refine lv_iload_n hx hb dX5_gapOf_1 rfl (lv_at hl 1 rfl) ?_
  refine lv_iconst (v := 1) hx hb dX5_gapOf_2 (by decide) ?_
  refine kR (kV Cc (mX5_side l D κ τ a h) (qX5_side hts (tw_912 hts) ⟨(Nat.le_of_ble_eq_true rfl), (Nat.le_of_ble_eq_true rfl)⟩) (va_recv hE.1 hPt (ci := 5) (q0 := 0) rfl rfl) (rest := []) hPt rfl hl.1 rfl (Nat.le_of_ble_eq_true rfl) dX5_gapOf_3 ⟨Nat.zero_le _, Nat.zero_le _⟩) (fun r3 h => ?_)
  refine lv_aload_n hx hb dX5_gapOf_6 rfl (lv_at hl 0 rfl) ?_
  refine lv_iload_n hx hb dX5_gapOf_7 rfl (lv_at hl 2 rfl) ?_
  refine lv_iconst (v := 0) hx hb dX5_gapOf_8 (by decide) ?_
  refine kR (kV Cc (mX5_side l D κ τ a h) (qX5_side hts (tw_912 hts) ⟨(Nat.le_of_ble_eq_true rfl), (Nat.le_of_ble_eq_true rfl)⟩) (va_recv hE.1 hPt (ci := 5) (q0 := 0) rfl rfl) (rest := [.int r3]) hPt rfl hl.1 rfl (Nat.le_of_ble_eq_true rfl) dX5_gapOf_9 ⟨Nat.zero_le _, Nat.zero_le _⟩) (fun r9 h => ?_)
  refine lv_isub hx hb dX5_gapOf_12 ?_
  refine va_mabs hx hb (hml.trans hl.1.symm) hown (tw_916 hts) (tw_319 hts) (tw_76 hts) (tw_320 hts) (Nat.le_of_ble_eq_true rfl) (Nat.le_of_ble_eq_true rfl) (Nat.zero_le _) (Nat.zero_le _) dX5_gapOf_13 ?_
  refine lv_topi (fun v13 e13 => ?_)
  have h := h v13 e13
  refine lv_istore_n (lv' := [(3, .int v13), (0, .ref (a 0)), (1, .int x1), (2, .int x2)]) hx hb dX5_gapOf_16 rfl hl (by decide) rfl (fun ls hl => ?_)
  refine lv_aload_n hx hb dX5_gapOf_17 rfl (lv_at hl 1 rfl) ?_
  refine lv_iload_n hx hb dX5_gapOf_18 rfl (lv_at hl 2 rfl) ?_
  refine lv_iconst (v := 3) hx hb dX5_gapOf_19 (by decide) ?_
  refine kR (kV Cc (mX5_pieceIs l D κ τ a h) (qX5_pieceIs hts (tw_889 hts) ⟨(Nat.le_of_ble_eq_true rfl), (Nat.le_of_ble_eq_true rfl)⟩) (va_recv hE.1 hPt (ci := 5) (q0 := 0) rfl rfl) (rest := []) hPt rfl hl.1 rfl (Nat.le_of_ble_eq_true rfl) dX5_gapOf_20 ⟨Nat.zero_le _, Nat.zero_le _⟩) (fun r20 h => ?_)
  refine lv_iload_n hx hb dX5_gapOf_23 rfl (lv_at hl 3 rfl) ?_
  refine lv_icmp_ne (tgt := 31) hx hb dX5_gapOf_24 (by decide) (fun c24 => ?_) (fun c24 => ?_)
  · have h := h.1 c24
    refine lv_iload_n hx hb dX5_gapOf_31 rfl (lv_at hl 0 rfl) ?_
    exact bX5_gapOf_32 Cc hPt x1 x2 v13 v13  _ (lv_sub hl [1, 2, 3, 0] rfl) h
  · have h := h.2 c24
    refine lv_iconst (v := 0) hx hb dX5_gapOf_27 (by decide) ?_
    refine lv_goto (tgt := 32) hx hb dX5_gapOf_28 (by decide) ?_
    exact bX5_gapOf_32 Cc hPt x1 x2 v13 0  _ (lv_sub hl [1, 2, 3, 0] rfl) h
theorem qX5_gapOf {R : Room} {s : State} {args : Array Value} {own : String} {idx : Nat} (hts : ∀ w ∈ gG, w.before args s = true) (hl : (Cond.methodLink own idx yX5_gapOf).before args s = true) (hR : rX5_gapOf.frames + 1 ≤ R.frames ∧ 8 + (6 + 11) + rX5_gapOf.locals ≤ R.locals) : CallW R s args own RX5 idx yX5_gapOf cX5_gapOf 6 (some .int) (wz yX5_gapOf cX5_gapOf 6 (some .int)) rX5_gapOf 0 0 2 := ⟨kw 2 hts mw_911 rfl rfl (tw_75 hts) hl (by decide +kernel) hR, tw_910 hts, tw_31 hts⟩
abbrev rX5_gap : Room := { frames := 4, cells := 0, slots := 0, locals := 90 }
def pX5_gap_36 (Q : Int32 → Mx → Prop) (y0 : Int32) (σ : Mx) : Prop := Q y0 σ
def pX5_gap_30 (Q : Int32 → Mx → Prop) (σ : Mx) : Prop := pX5_finding σ (-1000001) (fun r33 u33 => (pX5_gap_36 Q r33 u33))
def pX5_gap (σ : Mx) (x1 : Int32) (x2 : Int32) (Q : Int32 → Mx → Prop) : Prop := pX5_isPiece σ x1 (fun r2 => ((r2 = 0 → (pX5_gap_30 Q σ)) ∧ (¬ r2 = 0 → (pX5_isPiece σ x2 (fun r10 => ((r10 = 0 → (pX5_gap_30 Q σ)) ∧ (¬ r10 = 0 → ((x1 = x2 → (pX5_gap_30 Q σ)) ∧ (¬ x1 = x2 → (pX5_gapOf σ x1 x2 (fun r24 => (pX5_gap_36 Q r24 σ))))))))))))
set_option maxHeartbeats 4000000 in
set_option maxRecDepth 100000 in
theorem bX5_gap_36 {p : Program} {l : Launch} {e : Env} {s : State} {m : MethodId} {args : Array Value} {below : List Frame} {meth : Method} {c : Code} {D : va_G} {κ : Nat → ClassId} {τ : Nat → Nat} {a : Nat → Nat}   {Q : Int32 → Mx → Prop} (Cc : Cx D κ RX5 cX5_gap 3 (some .int) p s m args meth c) (hIt : Ij a 13)   : ∀ (y0 : Int32) (σ : Mx) (H : Heap) (locs : List Loc) (hPt : va_P D classes (wMo κ τ a σ) H) (hS : va_S (cA a 13) s.heap H locs) (ls : Array Slot) (hl : lv_has ls 3 []) (h : pX5_gap_36 Q y0 σ), W p l e rX5_gap s m args below meth c H locs 0 0 (MQ below (QWi Q (fun u H => va_P D classes (wMo κ τ a u) H) (cA a 13)) args s 0 0 (cA a 13)) (F0 m 36 ls [.int y0]) := by
  obtain ⟨hx, hb, hml, hown, hts, hr, hlk, hE⟩ := id Cc
  intro y0 σ H locs hPt hS ls hl h
  unfold pX5_gap_36 at h
  exact W.iret (v := y0) hx hb hr (fun t ht _ => QWi.mk (u := σ) h hPt hS ht) hS.2.2 dX5_gap_36 (hlocks := hlk)
set_option maxHeartbeats 4000000 in
set_option maxRecDepth 100000 in
theorem bX5_gap_30 {p : Program} {l : Launch} {e : Env} {s : State} {m : MethodId} {args : Array Value} {below : List Frame} {meth : Method} {c : Code} {D : va_G} {κ : Nat → ClassId} {τ : Nat → Nat} {a : Nat → Nat}   {Q : Int32 → Mx → Prop} (Cc : Cx D κ RX5 cX5_gap 3 (some .int) p s m args meth c) (hIt : Ij a 13)   : ∀ (σ : Mx) (H : Heap) (locs : List Loc) (hPt : va_P D classes (wMo κ τ a σ) H) (hS : va_S (cA a 13) s.heap H locs) (ls : Array Slot) (hl : lv_has ls 3 [(0, .ref (a 0))]) (h : pX5_gap_30 Q σ), W p l e rX5_gap s m args below meth c H locs 0 0 (MQ below (QWi Q (fun u H => va_P D classes (wMo κ τ a u) H) (cA a 13)) args s 0 0 (cA a 13)) (F0 m 30 ls []) := by
  obtain ⟨hx, hb, hml, hown, hts, hr, hlk, hE⟩ := id Cc
  intro σ H locs hPt hS ls hl h
  unfold pX5_gap_30 at h
  refine lv_aload_n hx hb dX5_gap_30 rfl (lv_at hl 0 rfl) ?_
  refine lv_ldc (own := RX5) (v := (-1000001)) hx hb hown (tw_842 hts) dX5_gap_31 ?_
  refine kWi (kV Cc (mX5_finding l D κ τ a hIt h) (qX5_finding hts (tw_843 hts) ⟨(Nat.le_of_ble_eq_true rfl), (Nat.le_of_ble_eq_true rfl)⟩) (va_recv hE.1 hPt (ci := 5) (q0 := 0) rfl rfl) (rest := []) hPt rfl hl.1 rfl (Nat.le_of_ble_eq_true rfl) dX5_gap_33 ⟨Nat.zero_le _, Nat.zero_le _⟩) hS (fun q h9 => h9) (fun r33 u33 H1 locs1 h hB hk hS1 => ?_)
  have hPt := hB
  have hS := hS1
  exact bX5_gap_36 Cc hIt r33 u33 _ _ hPt hS _ (lv_sub hl [] rfl) h
set_option maxHeartbeats 4000000 in
set_option maxRecDepth 100000 in
theorem mX5_gap (l : Launch) (D : va_G) (κ : Nat → ClassId) (τ : Nat → Nat) (a : Nat → Nat) {σ : Mx} {x1 : Int32} {x2 : Int32} {Q : Int32 → Mx → Prop} (hIt : Ij a 13) (h : pX5_gap σ x1 x2 Q) : Met l yX5_gap (wz yX5_gap cX5_gap 3 (some .int)) rX5_gap (va_Pc [.ref (a 0), .int x1, .int x2] (PE D κ (fun H => va_P D classes (wMo κ τ a σ) H))) (QWi Q (fun u H => va_P D classes (wMo κ τ a u) H) (cA a 13)) 0 0 (cA a 13) := by
  refine Met_of l (own := RX5) (by decide) rfl (Nat.le_of_ble_eq_true rfl) (fun p e s m below meth c Cc hPP ls hl => ?_)
  obtain ⟨hx, hb, hml, hown, hts, hr, hlk, hE⟩ := id Cc
  have hl : lv_has ls 3 [(0, .ref (a 0)), (1, .int x1), (2, .int x2)] := hl
  have hPt := hPP
  have hS : va_S (cA a 13) s.heap s.heap [] := va_S.rf
  unfold pX5_gap at h
  refine lv_aload_n hx hb dX5_gap_0 rfl (lv_at hl 0 rfl) ?_
  refine lv_iload_n hx hb dX5_gap_1 rfl (lv_at hl 1 rfl) ?_
  refine kR (kV Cc (mX5_isPiece l D κ τ a h) (qX5_isPiece hts (tw_873 hts) ⟨(Nat.le_of_ble_eq_true rfl), (Nat.le_of_ble_eq_true rfl)⟩) (va_recv hE.1 hPt (ci := 5) (q0 := 0) rfl rfl) (rest := []) hPt rfl hl.1 rfl (Nat.le_of_ble_eq_true rfl) dX5_gap_2 ⟨Nat.zero_le _, Nat.zero_le _⟩) (fun r2 h => ?_)
  refine lv_if_eq (tgt := 30) hx hb dX5_gap_5 (by decide) (fun c5 => ?_) (fun c5 => ?_)
  · have h := h.1 c5
    exact bX5_gap_30 Cc hIt σ _ _ hPt hS _ (lv_sub hl [0] rfl) h
  · have h := h.2 c5
    refine lv_aload_n hx hb dX5_gap_8 rfl (lv_at hl 0 rfl) ?_
    refine lv_iload_n hx hb dX5_gap_9 rfl (lv_at hl 2 rfl) ?_
    refine kR (kV Cc (mX5_isPiece l D κ τ a h) (qX5_isPiece hts (tw_873 hts) ⟨(Nat.le_of_ble_eq_true rfl), (Nat.le_of_ble_eq_true rfl)⟩) (va_recv hE.1 hPt (ci := 5) (q0 := 0) rfl rfl) (rest := []) hPt rfl hl.1 rfl (Nat.le_of_ble_eq_true rfl) dX5_gap_10 ⟨Nat.zero_le _, Nat.zero_le _⟩) (fun r10 h => ?_)
    refine lv_if_eq (tgt := 30) hx hb dX5_gap_13 (by decide) (fun c13 => ?_) (fun c13 => ?_)
    · have h := h.1 c13
      exact bX5_gap_30 Cc hIt σ _ _ hPt hS _ (lv_sub hl [0] rfl) h
    · have h := h.2 c13
      refine lv_iload_n hx hb dX5_gap_16 rfl (lv_at hl 1 rfl) ?_
      refine lv_iload_n hx hb dX5_gap_17 rfl (lv_at hl 2 rfl) ?_
      refine lv_icmp_eq (tgt := 30) hx hb dX5_gap_18 (by decide) (fun c18 => ?_) (fun c18 => ?_)
      · have h := h.1 c18
        exact bX5_gap_30 Cc hIt σ _ _ hPt hS _ (lv_sub hl [0] rfl) h
      · have h := h.2 c18
        refine lv_aload_n hx hb dX5_gap_21 rfl (lv_at hl 0 rfl) ?_
        refine lv_iload_n hx hb dX5_gap_22 rfl (lv_at hl 1 rfl) ?_
        refine lv_iload_n hx hb dX5_gap_23 rfl (lv_at hl 2 rfl) ?_
        refine kR (kV Cc (mX5_gapOf l D κ τ a h) (qX5_gapOf hts (tw_908 hts) ⟨(Nat.le_of_ble_eq_true rfl), (Nat.le_of_ble_eq_true rfl)⟩) (va_recv hE.1 hPt (ci := 5) (q0 := 0) rfl rfl) (rest := []) hPt rfl hl.1 rfl (Nat.le_of_ble_eq_true rfl) dX5_gap_24 ⟨Nat.zero_le _, Nat.zero_le _⟩) (fun r24 h => ?_)
        refine lv_goto (tgt := 36) hx hb dX5_gap_27 (by decide) ?_
        exact bX5_gap_36 Cc hIt r24 σ _ _ hPt hS _ (lv_sub hl [] rfl) h
theorem qX5_gap {R : Room} {s : State} {args : Array Value} {own : String} {idx : Nat} (hts : ∀ w ∈ gG, w.before args s = true) (hl : (Cond.methodLink own idx yX5_gap).before args s = true) (hR : rX5_gap.frames + 1 ≤ R.frames ∧ 8 + (3 + 11) + rX5_gap.locals ≤ R.locals) : CallW R s args own RX5 idx yX5_gap cX5_gap 3 (some .int) (wz yX5_gap cX5_gap 3 (some .int)) rX5_gap 0 0 2 := ⟨kw 2 hts mw_907 rfl rfl (tw_75 hts) hl (by decide +kernel) hR, tw_905 hts, tw_906 hts⟩
abbrev rX5_edgeOf : Room := { frames := 3, cells := 0, slots := 0, locals := 65 }
def pX5_edgeOf_50 (σ : Mx) (Q : Int32 → Prop) (x3 : Int32) : Prop := Q (x3 / 2)
def pX5_edgeOf (σ : Mx) (x1 : Int32) (x2 : Int32) (Q : Int32 → Prop) : Prop := pX5_side σ x1 x2 (fun r3 => (pX5_pieceIs σ x1 0 (fun r10 => ((r10 = 2 → (pX5_edgeOf_50 σ Q r3)) ∧ (r10 = 3 → (pX5_edgeOf_50 σ Q r3)) ∧ (r10 = 4 → (Q ((r3 / 2) + 1))) ∧ (r10 = 5 → (Q (9 - r3))) ∧ (r10 = 6 → (Q 0)) ∧ (¬ r10 = 2 → ¬ r10 = 3 → ¬ r10 = 4 → ¬ r10 = 5 → ¬ r10 = 6 → (Q r3))))))
set_option maxHeartbeats 4000000 in
set_option maxRecDepth 100000 in
theorem bX5_edgeOf_50 {p : Program} {l : Launch} {e : Env} {s : State} {m : MethodId} {args : Array Value} {below : List Frame} {meth : Method} {c : Code} {D : va_G} {κ : Nat → ClassId} {τ : Nat → Nat} {a : Nat → Nat} {σ : Mx}  {Q : Int32 → Prop} (Cc : Cx D κ RX5 cX5_edgeOf 4 (some .int) p s m args meth c)  (hPt : va_P D classes (wMo κ τ a σ) s.heap)  : ∀ (x3 : Int32) (ls : Array Slot) (hl : lv_has ls 4 [(3, .int x3)]) (h : pX5_edgeOf_50 σ Q x3), W p l e rX5_edgeOf s m args below meth c s.heap [] 0 0 (MQ below (RQ Q) args s 0 0 (fun _ => False)) (F0 m 50 ls []) := by
  obtain ⟨hx, hb, hml, hown, hts, hr, hlk, hE⟩ := id Cc
  intro x3 ls hl h
  unfold pX5_edgeOf_50 at h
  refine lv_iload_n hx hb dX5_edgeOf_50 rfl (lv_at hl 0 rfl) ?_
  refine lv_iconst (v := 2) hx hb dX5_edgeOf_51 (by decide) ?_
  refine lv_idiv hx hb dX5_edgeOf_52 (by decide) ?_
  exact W.iret (v := (x3 / 2)) hx hb hr (fun t ht _ => RQ.mk h ht) (fun _ h9 => by cases h9) dX5_edgeOf_53 (hlocks := hlk)
set_option maxHeartbeats 4000000 in
set_option maxRecDepth 100000 in
theorem mX5_edgeOf (l : Launch) (D : va_G) (κ : Nat → ClassId) (τ : Nat → Nat) (a : Nat → Nat) {σ : Mx} {x1 : Int32} {x2 : Int32} {Q : Int32 → Prop}  (h : pX5_edgeOf σ x1 x2 Q) : Met l yX5_edgeOf (wz yX5_edgeOf cX5_edgeOf 4 (some .int)) rX5_edgeOf (va_Pc [.ref (a 0), .int x1, .int x2] (PE D κ (fun H => va_P D classes (wMo κ τ a σ) H))) (RQ Q) 0 0 (fun _ => False) := by
  refine Met_of l (own := RX5) (by decide) rfl (Nat.le_of_ble_eq_true rfl) (fun p e s m below meth c Cc hPP ls hl => ?_)
  obtain ⟨hx, hb, hml, hown, hts, hr, hlk, hE⟩ := id Cc
  have hl : lv_has ls 4 [(0, .ref (a 0)), (1, .int x1), (2, .int x2)] := hl
  have hPt := hPP
  unfold pX5_edgeOf at h
  refine lv_aload_n hx hb dX5_edgeOf_0 rfl (lv_at hl 0 rfl) ?_
  refine lv_iload_n hx hb dX5_edgeOf_1 rfl (lv_at hl 1 rfl) ?_
  refine lv_iload_n hx hb dX5_edgeOf_2 rfl (lv_at hl 2 rfl) ?_
  refine kR (kV Cc (mX5_side l D κ τ a h) (qX5_side hts (tw_912 hts) ⟨(Nat.le_of_ble_eq_true rfl), (Nat.le_of_ble_eq_true rfl)⟩) (va_recv hE.1 hPt (ci := 5) (q0 := 0) rfl rfl) (rest := []) hPt rfl hl.1 rfl (Nat.le_of_ble_eq_true rfl) dX5_edgeOf_3 ⟨Nat.zero_le _, Nat.zero_le _⟩) (fun r3 h => ?_)
  refine lv_istore_n (lv' := [(3, .int r3), (0, .ref (a 0)), (1, .int x1), (2, .int x2)]) hx hb dX5_edgeOf_6 rfl hl (by decide) rfl (fun ls hl => ?_)
  refine lv_aload_n hx hb dX5_edgeOf_7 rfl (lv_at hl 1 rfl) ?_
  refine lv_iload_n hx hb dX5_edgeOf_8 rfl (lv_at hl 2 rfl) ?_
  refine lv_iconst (v := 0) hx hb dX5_edgeOf_9 (by decide) ?_
  refine kR (kV Cc (mX5_pieceIs l D κ τ a h) (qX5_pieceIs hts (tw_889 hts) ⟨(Nat.le_of_ble_eq_true rfl), (Nat.le_of_ble_eq_true rfl)⟩) (va_recv hE.1 hPt (ci := 5) (q0 := 0) rfl rfl) (rest := []) hPt rfl hl.1 rfl (Nat.le_of_ble_eq_true rfl) dX5_edgeOf_10 ⟨Nat.zero_le _, Nat.zero_le _⟩) (fun r10 h => ?_)
  by_cases c13_2 : r10 = 2
  · have h := h.1 c13_2
    refine lv_tableIn (tgt := 50) hx hb dX5_edgeOf_13 (by rw [c13_2]; decide) (by rw [c13_2]; decide) (by rw [c13_2]; rfl) (by decide) ?_
    exact bX5_edgeOf_50 Cc hPt r3  _ (lv_sub hl [0] rfl) h
  · have h := h.2
    by_cases c13_3 : r10 = 3
    · have h := h.1 c13_3
      refine lv_tableIn (tgt := 50) hx hb dX5_edgeOf_13 (by rw [c13_3]; decide) (by rw [c13_3]; decide) (by rw [c13_3]; rfl) (by decide) ?_
      exact bX5_edgeOf_50 Cc hPt r3  _ (lv_sub hl [0] rfl) h
    · have h := h.2
      by_cases c13_4 : r10 = 4
      · have h := h.1 c13_4
        refine lv_tableIn (tgt := 54) hx hb dX5_edgeOf_13 (by rw [c13_4]; decide) (by rw [c13_4]; decide) (by rw [c13_4]; rfl) (by decide) ?_
        refine lv_iload_n hx hb dX5_edgeOf_54 rfl (lv_at hl 0 rfl) ?_
        refine lv_iconst (v := 2) hx hb dX5_edgeOf_55 (by decide) ?_
        refine lv_idiv hx hb dX5_edgeOf_56 (by decide) ?_
        refine lv_iconst (v := 1) hx hb dX5_edgeOf_57 (by decide) ?_
        refine lv_iadd hx hb dX5_edgeOf_58 ?_
        exact W.iret (v := ((r3 / 2) + 1)) hx hb hr (fun t ht _ => RQ.mk h ht) (fun _ h9 => by cases h9) dX5_edgeOf_59 (hlocks := hlk)
      · have h := h.2
        by_cases c13_5 : r10 = 5
        · have h := h.1 c13_5
          refine lv_tableIn (tgt := 60) hx hb dX5_edgeOf_13 (by rw [c13_5]; decide) (by rw [c13_5]; decide) (by rw [c13_5]; rfl) (by decide) ?_
          refine lv_bipush (v := 9) hx hb dX5_edgeOf_60 (by decide) ?_
          refine lv_iload_n hx hb dX5_edgeOf_62 rfl (lv_at hl 0 rfl) ?_
          refine lv_isub hx hb dX5_edgeOf_63 ?_
          exact W.iret (v := (9 - r3)) hx hb hr (fun t ht _ => RQ.mk h ht) (fun _ h9 => by cases h9) dX5_edgeOf_64 (hlocks := hlk)
        · have h := h.2
          by_cases c13_6 : r10 = 6
          · have h := h.1 c13_6
            refine lv_tableIn (tgt := 48) hx hb dX5_edgeOf_13 (by rw [c13_6]; decide) (by rw [c13_6]; decide) (by rw [c13_6]; rfl) (by decide) ?_
            refine lv_iconst (v := 0) hx hb dX5_edgeOf_48 (by decide) ?_
            exact W.iret (v := 0) hx hb hr (fun t ht _ => RQ.mk h ht) (fun _ h9 => by cases h9) dX5_edgeOf_49 (hlocks := hlk)
          · have h := h.2
            have h := h c13_2 c13_3 c13_4 c13_5 c13_6
            refine lv_tableOut (tgt := 65) hx hb dX5_edgeOf_13 (by have h2 := ne_toInt c13_2 (z := 2) (by decide); have h3 := ne_toInt c13_3 (z := 3) (by decide); have h4 := ne_toInt c13_4 (z := 4) (by decide); have h5 := ne_toInt c13_5 (z := 5) (by decide); have h6 := ne_toInt c13_6 (z := 6) (by decide); omega) (by decide) ?_
            refine lv_iload_n hx hb dX5_edgeOf_65 rfl (lv_at hl 0 rfl) ?_
            exact W.iret (v := r3) hx hb hr (fun t ht _ => RQ.mk h ht) (fun _ h9 => by cases h9) dX5_edgeOf_66 (hlocks := hlk)
theorem qX5_edgeOf {R : Room} {s : State} {args : Array Value} {own : String} {idx : Nat} (hts : ∀ w ∈ gG, w.before args s = true) (hl : (Cond.methodLink own idx yX5_edgeOf).before args s = true) (hR : rX5_edgeOf.frames + 1 ≤ R.frames ∧ 8 + (4 + 11) + rX5_edgeOf.locals ≤ R.locals) : CallW R s args own RX5 idx yX5_edgeOf cX5_edgeOf 4 (some .int) (wz yX5_edgeOf cX5_edgeOf 4 (some .int)) rX5_edgeOf 0 0 2 := ⟨kw 2 hts mw_928 rfl rfl (tw_75 hts) hl (by decide +kernel) hR, tw_927 hts, tw_34 hts⟩
abbrev rX5_edge : Room := { frames := 4, cells := 0, slots := 0, locals := 88 }
def pX5_edge_32 (Q : Int32 → Mx → Prop) (y0 : Int32) (σ : Mx) : Prop := Q y0 σ
def pX5_edge_26 (Q : Int32 → Mx → Prop) (σ : Mx) : Prop := pX5_finding σ (-1000001) (fun r29 u29 => (pX5_edge_32 Q r29 u29))
def pX5_edge (σ : Mx) (x1 : Int32) (x2 : Int32) (Q : Int32 → Mx → Prop) : Prop := pX5_isPiece σ x1 (fun r2 => ((r2 = 0 → (pX5_edge_26 Q σ)) ∧ (¬ r2 = 0 → (pX5_within x2 0 1 (fun r11 => ((r11 = 0 → (pX5_edge_26 Q σ)) ∧ (¬ r11 = 0 → (pX5_edgeOf σ x1 x2 (fun r20 => (pX5_edge_32 Q r20 σ))))))))))
set_option maxHeartbeats 4000000 in
set_option maxRecDepth 100000 in
theorem bX5_edge_32 {p : Program} {l : Launch} {e : Env} {s : State} {m : MethodId} {args : Array Value} {below : List Frame} {meth : Method} {c : Code} {D : va_G} {κ : Nat → ClassId} {τ : Nat → Nat} {a : Nat → Nat}   {Q : Int32 → Mx → Prop} (Cc : Cx D κ RX5 cX5_edge 3 (some .int) p s m args meth c) (hIt : Ij a 13)   : ∀ (y0 : Int32) (σ : Mx) (H : Heap) (locs : List Loc) (hPt : va_P D classes (wMo κ τ a σ) H) (hS : va_S (cA a 13) s.heap H locs) (ls : Array Slot) (hl : lv_has ls 3 []) (h : pX5_edge_32 Q y0 σ), W p l e rX5_edge s m args below meth c H locs 0 0 (MQ below (QWi Q (fun u H => va_P D classes (wMo κ τ a u) H) (cA a 13)) args s 0 0 (cA a 13)) (F0 m 32 ls [.int y0]) := by
  obtain ⟨hx, hb, hml, hown, hts, hr, hlk, hE⟩ := id Cc
  intro y0 σ H locs hPt hS ls hl h
  unfold pX5_edge_32 at h
  exact W.iret (v := y0) hx hb hr (fun t ht _ => QWi.mk (u := σ) h hPt hS ht) hS.2.2 dX5_edge_32 (hlocks := hlk)
set_option maxHeartbeats 4000000 in
set_option maxRecDepth 100000 in
theorem bX5_edge_26 {p : Program} {l : Launch} {e : Env} {s : State} {m : MethodId} {args : Array Value} {below : List Frame} {meth : Method} {c : Code} {D : va_G} {κ : Nat → ClassId} {τ : Nat → Nat} {a : Nat → Nat}   {Q : Int32 → Mx → Prop} (Cc : Cx D κ RX5 cX5_edge 3 (some .int) p s m args meth c) (hIt : Ij a 13)   : ∀ (σ : Mx) (H : Heap) (locs : List Loc) (hPt : va_P D classes (wMo κ τ a σ) H) (hS : va_S (cA a 13) s.heap H locs) (ls : Array Slot) (hl : lv_has ls 3 [(0, .ref (a 0))]) (h : pX5_edge_26 Q σ), W p l e rX5_edge s m args below meth c H locs 0 0 (MQ below (QWi Q (fun u H => va_P D classes (wMo κ τ a u) H) (cA a 13)) args s 0 0 (cA a 13)) (F0 m 26 ls []) := by
  obtain ⟨hx, hb, hml, hown, hts, hr, hlk, hE⟩ := id Cc
  intro σ H locs hPt hS ls hl h
  unfold pX5_edge_26 at h
  refine lv_aload_n hx hb dX5_edge_26 rfl (lv_at hl 0 rfl) ?_
  refine lv_ldc (own := RX5) (v := (-1000001)) hx hb hown (tw_842 hts) dX5_edge_27 ?_
  refine kWi (kV Cc (mX5_finding l D κ τ a hIt h) (qX5_finding hts (tw_843 hts) ⟨(Nat.le_of_ble_eq_true rfl), (Nat.le_of_ble_eq_true rfl)⟩) (va_recv hE.1 hPt (ci := 5) (q0 := 0) rfl rfl) (rest := []) hPt rfl hl.1 rfl (Nat.le_of_ble_eq_true rfl) dX5_edge_29 ⟨Nat.zero_le _, Nat.zero_le _⟩) hS (fun q h9 => h9) (fun r29 u29 H1 locs1 h hB hk hS1 => ?_)
  have hPt := hB
  have hS := hS1
  exact bX5_edge_32 Cc hIt r29 u29 _ _ hPt hS _ (lv_sub hl [] rfl) h
set_option maxHeartbeats 4000000 in
set_option maxRecDepth 100000 in
theorem mX5_edge (l : Launch) (D : va_G) (κ : Nat → ClassId) (τ : Nat → Nat) (a : Nat → Nat) {σ : Mx} {x1 : Int32} {x2 : Int32} {Q : Int32 → Mx → Prop} (hIt : Ij a 13) (h : pX5_edge σ x1 x2 Q) : Met l yX5_edge (wz yX5_edge cX5_edge 3 (some .int)) rX5_edge (va_Pc [.ref (a 0), .int x1, .int x2] (PE D κ (fun H => va_P D classes (wMo κ τ a σ) H))) (QWi Q (fun u H => va_P D classes (wMo κ τ a u) H) (cA a 13)) 0 0 (cA a 13) := by
  refine Met_of l (own := RX5) (by decide) rfl (Nat.le_of_ble_eq_true rfl) (fun p e s m below meth c Cc hPP ls hl => ?_)
  obtain ⟨hx, hb, hml, hown, hts, hr, hlk, hE⟩ := id Cc
  have hl : lv_has ls 3 [(0, .ref (a 0)), (1, .int x1), (2, .int x2)] := hl
  have hPt := hPP
  have hS : va_S (cA a 13) s.heap s.heap [] := va_S.rf
  unfold pX5_edge at h
  refine lv_aload_n hx hb dX5_edge_0 rfl (lv_at hl 0 rfl) ?_
  refine lv_iload_n hx hb dX5_edge_1 rfl (lv_at hl 1 rfl) ?_
  refine kR (kV Cc (mX5_isPiece l D κ τ a h) (qX5_isPiece hts (tw_873 hts) ⟨(Nat.le_of_ble_eq_true rfl), (Nat.le_of_ble_eq_true rfl)⟩) (va_recv hE.1 hPt (ci := 5) (q0 := 0) rfl rfl) (rest := []) hPt rfl hl.1 rfl (Nat.le_of_ble_eq_true rfl) dX5_edge_2 ⟨Nat.zero_le _, Nat.zero_le _⟩) (fun r2 h => ?_)
  refine lv_if_eq (tgt := 26) hx hb dX5_edge_5 (by decide) (fun c5 => ?_) (fun c5 => ?_)
  · have h := h.1 c5
    exact bX5_edge_26 Cc hIt σ _ _ hPt hS _ (lv_sub hl [0] rfl) h
  · have h := h.2 c5
    refine lv_iload_n hx hb dX5_edge_8 rfl (lv_at hl 2 rfl) ?_
    refine lv_iconst (v := 0) hx hb dX5_edge_9 (by decide) ?_
    refine lv_iconst (v := 1) hx hb dX5_edge_10 (by decide) ?_
    refine kR (kS Cc (mX5_within l D κ h) (qX5_within hts (tw_832 hts) ⟨(Nat.le_of_ble_eq_true rfl), (Nat.le_of_ble_eq_true rfl)⟩) (rest := []) trivial rfl hl.1 rfl (Nat.le_of_ble_eq_true rfl) dX5_edge_11 ⟨Nat.zero_le _, Nat.zero_le _⟩) (fun r11 h => ?_)
    refine lv_if_eq (tgt := 26) hx hb dX5_edge_14 (by decide) (fun c14 => ?_) (fun c14 => ?_)
    · have h := h.1 c14
      exact bX5_edge_26 Cc hIt σ _ _ hPt hS _ (lv_sub hl [0] rfl) h
    · have h := h.2 c14
      refine lv_aload_n hx hb dX5_edge_17 rfl (lv_at hl 0 rfl) ?_
      refine lv_iload_n hx hb dX5_edge_18 rfl (lv_at hl 1 rfl) ?_
      refine lv_iload_n hx hb dX5_edge_19 rfl (lv_at hl 2 rfl) ?_
      refine kR (kV Cc (mX5_edgeOf l D κ τ a h) (qX5_edgeOf hts (tw_925 hts) ⟨(Nat.le_of_ble_eq_true rfl), (Nat.le_of_ble_eq_true rfl)⟩) (va_recv hE.1 hPt (ci := 5) (q0 := 0) rfl rfl) (rest := []) hPt rfl hl.1 rfl (Nat.le_of_ble_eq_true rfl) dX5_edge_20 ⟨Nat.zero_le _, Nat.zero_le _⟩) (fun r20 h => ?_)
      refine lv_goto (tgt := 32) hx hb dX5_edge_23 (by decide) ?_
      exact bX5_edge_32 Cc hIt r20 σ _ _ hPt hS _ (lv_sub hl [] rfl) h
theorem qX5_edge {R : Room} {s : State} {args : Array Value} {own : String} {idx : Nat} (hts : ∀ w ∈ gG, w.before args s = true) (hl : (Cond.methodLink own idx yX5_edge).before args s = true) (hR : rX5_edge.frames + 1 ≤ R.frames ∧ 8 + (3 + 11) + rX5_edge.locals ≤ R.locals) : CallW R s args own RX5 idx yX5_edge cX5_edge 3 (some .int) (wz yX5_edge cX5_edge 3 (some .int)) rX5_edge 0 0 2 := ⟨kw 2 hts mw_924 rfl rfl (tw_75 hts) hl (by decide +kernel) hR, tw_922 hts, tw_923 hts⟩
abbrev rX5_sumNow : Room := { frames := 4, cells := 0, slots := 0, locals := 90 }
def pX5_sumNow_47s (σ : Mx) (ih47 : Int32 → Int32 → Int32 → Prop) (Q : Int32 → Prop) (x1 : Int32) (x2 : Int32) (x3 : Int32) : Prop := (x1 ≤ x3 → (Q x2)) ∧ (¬ x1 ≤ x3 → (vp_in ((59 + x3) - 1) 67 ∧ (vp_in (59 + x3) 67 ∧ (pX5_gapOf σ (σ 0 ((59 + x3) - 1).toNatClampNeg) (σ 0 (59 + x3).toNatClampNeg) (fun r74 => (∀ v78 : Int32, v78 = (x2 + r74) → (ih47 x1 v78 (x3 + 1))))))))
noncomputable def pX5_sumNow_47 (σ : Mx) (Q : Int32 → Prop) (n : Nat) : Int32 → Int32 → Int32 → Prop := Nat.rec (motive := fun _ => Int32 → Int32 → Int32 → Prop) (fun _ _ _ => False) (fun _ ih => pX5_sumNow_47s σ ih Q) n
def pX5_sumNow_44 (σ : Mx) (Q : Int32 → Prop) (x1 : Int32) (y0 : Int32) : Prop := ∃ n, pX5_sumNow_47 σ Q n x1 y0 1
def pX5_sumNow (σ : Mx)  (Q : Int32 → Prop) : Prop := vp_in 1 67 ∧ (∀ v6 : Int32, v6 = (σ 0 (1 : Int32).toNatClampNeg) → ((¬ v6 = 0 → (vp_in 59 67 ∧ (pX5_edgeOf σ (σ 0 (59 : Int32).toNatClampNeg) 0 (fun r24 => (vp_in ((59 + v6) - 1) 67 ∧ (pX5_edgeOf σ (σ 0 ((59 + v6) - 1).toNatClampNeg) 1 (fun r40 => (pX5_sumNow_44 σ Q v6 (r24 + r40))))))))) ∧ (v6 = 0 → (pX5_sumNow_44 σ Q v6 0))))
set_option maxHeartbeats 4000000 in
set_option maxRecDepth 100000 in
theorem bX5_sumNow_47 {p : Program} {l : Launch} {e : Env} {s : State} {m : MethodId} {args : Array Value} {below : List Frame} {meth : Method} {c : Code} {D : va_G} {κ : Nat → ClassId} {τ : Nat → Nat} {a : Nat → Nat} {σ : Mx}  {Q : Int32 → Prop} (Cc : Cx D κ RX5 cX5_sumNow 4 (some .int) p s m args meth c)  (hPt : va_P D classes (wMo κ τ a σ) s.heap)  (n : Nat) : ∀ (x1 : Int32) (x2 : Int32) (x3 : Int32) (ls : Array Slot) (hl : lv_has ls 4 [(0, .ref (a 0)), (1, .int x1), (2, .int x2), (3, .int x3)]) (h : pX5_sumNow_47 σ Q n x1 x2 x3), W p l e rX5_sumNow s m args below meth c s.heap [] 0 0 (MQ below (RQ Q) args s 0 0 (fun _ => False)) (F0 m 47 ls []) := by
  obtain ⟨hx, hb, hml, hown, hts, hr, hlk, hE⟩ := id Cc
  induction n with
  | zero =>
    intro x1 x2 x3 ls hl h
    exact absurd h (fun z => z)
  | succ n hih47 =>
    intro x1 x2 x3 ls hl h
    have h : pX5_sumNow_47s σ (pX5_sumNow_47 σ Q n) Q x1 x2 x3 := h
    unfold pX5_sumNow_47s at h
    refine lv_iload_n hx hb dX5_sumNow_47 rfl (lv_at hl 3 rfl) ?_
    refine lv_iload_n hx hb dX5_sumNow_48 rfl (lv_at hl 1 rfl) ?_
    refine lv_icmp_ge (tgt := 85) hx hb dX5_sumNow_49 (by decide) (fun c49 => ?_) (fun c49 => ?_)
    · have h := h.1 c49
      refine lv_iload_n hx hb dX5_sumNow_85 rfl (lv_at hl 2 rfl) ?_
      exact W.iret (v := x2) hx hb hr (fun t ht _ => RQ.mk h ht) (fun _ h9 => by cases h9) dX5_sumNow_86 (hlocks := hlk)
    · have h := h.2 c49
      refine lv_iload_n hx hb dX5_sumNow_52 rfl (lv_at hl 2 rfl) ?_
      refine lv_aload_n hx hb dX5_sumNow_53 rfl (lv_at hl 0 rfl) ?_
      refine lv_aload_n hx hb dX5_sumNow_54 rfl (lv_at hl 0 rfl) ?_
      refine gMo_0 Cc hPt (tw_761 hts) dX5_sumNow_55 ?_
      refine lv_bipush (v := 59) hx hb dX5_sumNow_58 (by decide) ?_
      refine lv_iload_n hx hb dX5_sumNow_60 rfl (lv_at hl 3 rfl) ?_
      refine lv_iadd hx hb dX5_sumNow_61 ?_
      refine lv_iconst (v := 1) hx hb dX5_sumNow_62 (by decide) ?_
      refine lv_isub hx hb dX5_sumNow_63 ?_
      refine lMo_0 Cc hPt h.1 dX5_sumNow_64 ?_
      have h := h.2
      refine lv_aload_n hx hb dX5_sumNow_65 rfl (lv_at hl 0 rfl) ?_
      refine gMo_0 Cc hPt (tw_761 hts) dX5_sumNow_66 ?_
      refine lv_bipush (v := 59) hx hb dX5_sumNow_69 (by decide) ?_
      refine lv_iload_n hx hb dX5_sumNow_71 rfl (lv_at hl 3 rfl) ?_
      refine lv_iadd hx hb dX5_sumNow_72 ?_
      refine lMo_0 Cc hPt h.1 dX5_sumNow_73 ?_
      have h := h.2
      refine kR (kV Cc (mX5_gapOf l D κ τ a h) (qX5_gapOf hts (tw_908 hts) ⟨(Nat.le_of_ble_eq_true rfl), (Nat.le_of_ble_eq_true rfl)⟩) (va_recv hE.1 hPt (ci := 5) (q0 := 0) rfl rfl) (rest := [.int x2]) hPt rfl hl.1 rfl (Nat.le_of_ble_eq_true rfl) dX5_sumNow_74 ⟨Nat.zero_le _, Nat.zero_le _⟩) (fun r74 h => ?_)
      refine lv_iadd hx hb dX5_sumNow_77 ?_
      refine lv_topi (fun v78 e78 => ?_)
      have h := h v78 e78
      refine lv_istore_n (lv' := [(2, .int v78), (0, .ref (a 0)), (1, .int x1), (3, .int x3)]) hx hb dX5_sumNow_78 rfl hl (by decide) rfl (fun ls hl => ?_)
      refine lv_iinc (v := (x3 + 1)) (lv' := [(3, .int (x3 + 1)), (2, .int v78), (0, .ref (a 0)), (1, .int x1)]) hx hb dX5_sumNow_79 hl (k := 3) rfl rfl (by decide) rfl (fun ls hl => ?_)
      refine lv_goto (tgt := 47) hx hb dX5_sumNow_82 (by decide) ?_
      exact hih47 x1 v78 (x3 + 1)  _ (lv_sub hl [2, 3, 1, 0] rfl) h
set_option maxHeartbeats 4000000 in
set_option maxRecDepth 100000 in
theorem bX5_sumNow_44 {p : Program} {l : Launch} {e : Env} {s : State} {m : MethodId} {args : Array Value} {below : List Frame} {meth : Method} {c : Code} {D : va_G} {κ : Nat → ClassId} {τ : Nat → Nat} {a : Nat → Nat} {σ : Mx}  {Q : Int32 → Prop} (Cc : Cx D κ RX5 cX5_sumNow 4 (some .int) p s m args meth c)  (hPt : va_P D classes (wMo κ τ a σ) s.heap)  : ∀ (x1 : Int32) (y0 : Int32) (ls : Array Slot) (hl : lv_has ls 4 [(0, .ref (a 0)), (1, .int x1)]) (h : pX5_sumNow_44 σ Q x1 y0), W p l e rX5_sumNow s m args below meth c s.heap [] 0 0 (MQ below (RQ Q) args s 0 0 (fun _ => False)) (F0 m 44 ls [.int y0]) := by
  obtain ⟨hx, hb, hml, hown, hts, hr, hlk, hE⟩ := id Cc
  intro x1 y0 ls hl h
  unfold pX5_sumNow_44 at h
  refine lv_istore_n (lv' := [(2, .int y0), (0, .ref (a 0)), (1, .int x1)]) hx hb dX5_sumNow_44 rfl hl (by decide) rfl (fun ls hl => ?_)
  refine lv_iconst (v := 1) hx hb dX5_sumNow_45 (by decide) ?_
  refine lv_istore_n (lv' := [(3, .int 1), (2, .int y0), (0, .ref (a 0)), (1, .int x1)]) hx hb dX5_sumNow_46 rfl hl (by decide) rfl (fun ls hl => ?_)
  obtain ⟨n, h⟩ := h
  exact bX5_sumNow_47 Cc hPt n x1 y0 1  _ (lv_sub hl [2, 3, 1, 0] rfl) h
set_option maxHeartbeats 4000000 in
set_option maxRecDepth 100000 in
theorem mX5_sumNow (l : Launch) (D : va_G) (κ : Nat → ClassId) (τ : Nat → Nat) (a : Nat → Nat) {σ : Mx}  {Q : Int32 → Prop}  (h : pX5_sumNow σ  Q) : Met l yX5_sumNow (wz yX5_sumNow cX5_sumNow 4 (some .int)) rX5_sumNow (va_Pc [.ref (a 0)] (PE D κ (fun H => va_P D classes (wMo κ τ a σ) H))) (RQ Q) 0 0 (fun _ => False) := by
  refine Met_of l (own := RX5) (by decide) rfl (Nat.le_of_ble_eq_true rfl) (fun p e s m below meth c Cc hPP ls hl => ?_)
  obtain ⟨hx, hb, hml, hown, hts, hr, hlk, hE⟩ := id Cc
  have hl : lv_has ls 4 [(0, .ref (a 0))] := hl
  have hPt := hPP
  unfold pX5_sumNow at h
  refine lv_aload_n hx hb dX5_sumNow_0 rfl (lv_at hl 0 rfl) ?_
  refine gMo_0 Cc hPt (tw_761 hts) dX5_sumNow_1 ?_
  refine lv_iconst (v := 1) hx hb dX5_sumNow_4 (by decide) ?_
  refine lMo_0 Cc hPt h.1 dX5_sumNow_5 ?_
  have h := h.2
  refine lv_topi (fun v6 e6 => ?_)
  have h := h v6 e6
  refine lv_istore_n (lv' := [(1, .int v6), (0, .ref (a 0))]) hx hb dX5_sumNow_6 rfl hl (by decide) rfl (fun ls hl => ?_)
  refine lv_iload_n hx hb dX5_sumNow_7 rfl (lv_at hl 0 rfl) ?_
  refine lv_if_ne (tgt := 15) hx hb dX5_sumNow_8 (by decide) (fun c8 => ?_) (fun c8 => ?_)
  · have h := h.1 c8
    refine lv_aload_n hx hb dX5_sumNow_15 rfl (lv_at hl 1 rfl) ?_
    refine lv_aload_n hx hb dX5_sumNow_16 rfl (lv_at hl 1 rfl) ?_
    refine gMo_0 Cc hPt (tw_761 hts) dX5_sumNow_17 ?_
    refine lv_bipush (v := 59) hx hb dX5_sumNow_20 (by decide) ?_
    refine lMo_0 Cc hPt h.1 dX5_sumNow_22 ?_
    have h := h.2
    refine lv_iconst (v := 0) hx hb dX5_sumNow_23 (by decide) ?_
    refine kR (kV Cc (mX5_edgeOf l D κ τ a h) (qX5_edgeOf hts (tw_925 hts) ⟨(Nat.le_of_ble_eq_true rfl), (Nat.le_of_ble_eq_true rfl)⟩) (va_recv hE.1 hPt (ci := 5) (q0 := 0) rfl rfl) (rest := []) hPt rfl hl.1 rfl (Nat.le_of_ble_eq_true rfl) dX5_sumNow_24 ⟨Nat.zero_le _, Nat.zero_le _⟩) (fun r24 h => ?_)
    refine lv_aload_n hx hb dX5_sumNow_27 rfl (lv_at hl 1 rfl) ?_
    refine lv_aload_n hx hb dX5_sumNow_28 rfl (lv_at hl 1 rfl) ?_
    refine gMo_0 Cc hPt (tw_761 hts) dX5_sumNow_29 ?_
    refine lv_bipush (v := 59) hx hb dX5_sumNow_32 (by decide) ?_
    refine lv_iload_n hx hb dX5_sumNow_34 rfl (lv_at hl 0 rfl) ?_
    refine lv_iadd hx hb dX5_sumNow_35 ?_
    refine lv_iconst (v := 1) hx hb dX5_sumNow_36 (by decide) ?_
    refine lv_isub hx hb dX5_sumNow_37 ?_
    refine lMo_0 Cc hPt h.1 dX5_sumNow_38 ?_
    have h := h.2
    refine lv_iconst (v := 1) hx hb dX5_sumNow_39 (by decide) ?_
    refine kR (kV Cc (mX5_edgeOf l D κ τ a h) (qX5_edgeOf hts (tw_925 hts) ⟨(Nat.le_of_ble_eq_true rfl), (Nat.le_of_ble_eq_true rfl)⟩) (va_recv hE.1 hPt (ci := 5) (q0 := 0) rfl rfl) (rest := [.int r24]) hPt rfl hl.1 rfl (Nat.le_of_ble_eq_true rfl) dX5_sumNow_40 ⟨Nat.zero_le _, Nat.zero_le _⟩) (fun r40 h => ?_)
    refine lv_iadd hx hb dX5_sumNow_43 ?_
    exact bX5_sumNow_44 Cc hPt v6 (r24 + r40)  _ (lv_sub hl [1, 0] rfl) h
  · have h := h.2 c8
    refine lv_iconst (v := 0) hx hb dX5_sumNow_11 (by decide) ?_
    refine lv_goto (tgt := 44) hx hb dX5_sumNow_12 (by decide) ?_
    exact bX5_sumNow_44 Cc hPt v6 0  _ (lv_sub hl [1, 0] rfl) h
theorem qX5_sumNow {R : Room} {s : State} {args : Array Value} {own : String} {idx : Nat} (hts : ∀ w ∈ gG, w.before args s = true) (hl : (Cond.methodLink own idx yX5_sumNow).before args s = true) (hR : rX5_sumNow.frames + 1 ≤ R.frames ∧ 8 + (4 + 11) + rX5_sumNow.locals ≤ R.locals) : CallW R s args own RX5 idx yX5_sumNow cX5_sumNow 4 (some .int) (wz yX5_sumNow cX5_sumNow 4 (some .int)) rX5_sumNow 0 0 0 := ⟨kw 0 hts mw_940 rfl rfl (tw_75 hts) hl (by decide +kernel) hR, tw_939 hts, tw_36 hts⟩
abbrev rX5_exchange : Room := { frames := 0, cells := 0, slots := 0, locals := 0 }
def pX5_exchange (σ : Mx) (x1 : Int32) (x2 : Int32) (Q : Mx → Prop) : Prop := vp_in (59 + x1) 67 ∧ (∀ v9 : Int32, v9 = (σ 0 (59 + x1).toNatClampNeg) → (vp_in (59 + x2) 67 ∧ (vp_in (59 + x1) 67 ∧ (vp_in (59 + x2) 67 ∧ (Q (st (st σ 0 (59 + x1).toNatClampNeg (σ 0 (59 + x2).toNatClampNeg)) 0 (59 + x2).toNatClampNeg v9))))))
set_option maxHeartbeats 4000000 in
set_option maxRecDepth 100000 in
theorem mX5_exchange (l : Launch) (D : va_G) (κ : Nat → ClassId) (τ : Nat → Nat) (a : Nat → Nat) {σ : Mx} {x1 : Int32} {x2 : Int32} {Q : Mx → Prop} (hIt : Ij a 13) (h : pX5_exchange σ x1 x2 Q) : Met l yX5_exchange (wz yX5_exchange cX5_exchange 4 none) rX5_exchange (va_Pc [.ref (a 0), .int x1, .int x2] (PE D κ (fun H => va_P D classes (wMo κ τ a σ) H))) (QWv Q (fun u H => va_P D classes (wMo κ τ a u) H) (cA a 13)) 0 0 (cA a 13) := by
  refine Met_of l (own := RX5) (by decide) rfl (Nat.le_of_ble_eq_true rfl) (fun p e s m below meth c Cc hPP ls hl => ?_)
  obtain ⟨hx, hb, hml, hown, hts, hr, hlk, hE⟩ := id Cc
  have hl : lv_has ls 4 [(0, .ref (a 0)), (1, .int x1), (2, .int x2)] := hl
  have hPt := hPP
  have hS : va_S (cA a 13) s.heap s.heap [] := va_S.rf
  unfold pX5_exchange at h
  refine lv_aload_n hx hb dX5_exchange_0 rfl (lv_at hl 0 rfl) ?_
  refine gMo_0 Cc hPt (tw_761 hts) dX5_exchange_1 ?_
  refine lv_bipush (v := 59) hx hb dX5_exchange_4 (by decide) ?_
  refine lv_iload_n hx hb dX5_exchange_6 rfl (lv_at hl 1 rfl) ?_
  refine lv_iadd hx hb dX5_exchange_7 ?_
  refine lMo_0 Cc hPt h.1 dX5_exchange_8 ?_
  have h := h.2
  refine lv_topi (fun v9 e9 => ?_)
  have h := h v9 e9
  refine lv_istore_n (lv' := [(3, .int v9), (0, .ref (a 0)), (1, .int x1), (2, .int x2)]) hx hb dX5_exchange_9 rfl hl (by decide) rfl (fun ls hl => ?_)
  refine lv_aload_n hx hb dX5_exchange_10 rfl (lv_at hl 1 rfl) ?_
  refine gMo_0 Cc hPt (tw_761 hts) dX5_exchange_11 ?_
  refine lv_bipush (v := 59) hx hb dX5_exchange_14 (by decide) ?_
  refine lv_iload_n hx hb dX5_exchange_16 rfl (lv_at hl 2 rfl) ?_
  refine lv_iadd hx hb dX5_exchange_17 ?_
  refine lv_aload_n hx hb dX5_exchange_18 rfl (lv_at hl 1 rfl) ?_
  refine gMo_0 Cc hPt (tw_761 hts) dX5_exchange_19 ?_
  refine lv_bipush (v := 59) hx hb dX5_exchange_22 (by decide) ?_
  refine lv_iload_n hx hb dX5_exchange_24 rfl (lv_at hl 3 rfl) ?_
  refine lv_iadd hx hb dX5_exchange_25 ?_
  refine lMo_0 Cc hPt h.1 dX5_exchange_26 ?_
  have h := h.2
  refine sMo_0 Cc hPt hIt hS ⟨1, by decide, rfl⟩ h.1 dX5_exchange_27 (fun H1 locs1 hB hS1 hk => ?_)
  have h := h.2
  have hPt := hB
  have hS := hS1
  refine lv_aload_n hx hb dX5_exchange_28 rfl (lv_at hl 1 rfl) ?_
  refine gMo_0 Cc hPt (tw_761 hts) dX5_exchange_29 ?_
  refine lv_bipush (v := 59) hx hb dX5_exchange_32 (by decide) ?_
  refine lv_iload_n hx hb dX5_exchange_34 rfl (lv_at hl 3 rfl) ?_
  refine lv_iadd hx hb dX5_exchange_35 ?_
  refine lv_iload_n hx hb dX5_exchange_36 rfl (lv_at hl 0 rfl) ?_
  refine sMo_0 Cc hPt hIt hS ⟨1, by decide, rfl⟩ h.1 dX5_exchange_37 (fun H1 locs1 hB hS1 hk => ?_)
  have h := h.2
  have hPt := hB
  have hS := hS1
  exact W.vret hx hb hr (fun t ht _ => QWv.mk (u := (st (st σ 0 (59 + x1).toNatClampNeg (σ 0 (59 + x2).toNatClampNeg)) 0 (59 + x2).toNatClampNeg v9)) h hPt hS ht) hS.2.2 dX5_exchange_38 (hlocks := hlk)
theorem qX5_exchange {R : Room} {s : State} {args : Array Value} {own : String} {idx : Nat} (hts : ∀ w ∈ gG, w.before args s = true) (hl : (Cond.methodLink own idx yX5_exchange).before args s = true) (hR : rX5_exchange.frames + 1 ≤ R.frames ∧ 8 + (4 + 11) + rX5_exchange.locals ≤ R.locals) : CallW R s args own RX5 idx yX5_exchange cX5_exchange 4 none (wz yX5_exchange cX5_exchange 4 none) rX5_exchange 0 0 2 := ⟨kw 2 hts mw_936 rfl rfl (tw_75 hts) hl (by decide +kernel) hR, tw_935 hts, tw_35 hts⟩
abbrev rX5_swap : Room := { frames := 5, cells := 0, slots := 0, locals := 113 }
def pX5_swap_16 (Q : Int32 → Mx → Prop) (σ : Mx) : Prop := pX5_finding σ (-1000001) (fun r19 u19 => (Q r19 u19))
def pX5_swap (σ : Mx) (x1 : Int32) (x2 : Int32) (Q : Int32 → Mx → Prop) : Prop := pX5_isPiece σ x1 (fun r2 => ((r2 = 0 → (pX5_swap_16 Q σ)) ∧ (¬ r2 = 0 → (pX5_isPiece σ x2 (fun r10 => ((¬ r10 = 0 → (pX5_exchange σ x1 x2 (fun u26 => (pX5_sumNow u26 (fun r30 => (Q r30 u26)))))) ∧ (r10 = 0 → (pX5_swap_16 Q σ))))))))
set_option maxHeartbeats 4000000 in
set_option maxRecDepth 100000 in
theorem bX5_swap_16 {p : Program} {l : Launch} {e : Env} {s : State} {m : MethodId} {args : Array Value} {below : List Frame} {meth : Method} {c : Code} {D : va_G} {κ : Nat → ClassId} {τ : Nat → Nat} {a : Nat → Nat}   {Q : Int32 → Mx → Prop} (Cc : Cx D κ RX5 cX5_swap 3 (some .int) p s m args meth c) (hIt : Ij a 13)   : ∀ (σ : Mx) (H : Heap) (locs : List Loc) (hPt : va_P D classes (wMo κ τ a σ) H) (hS : va_S (cA a 13) s.heap H locs) (ls : Array Slot) (hl : lv_has ls 3 [(0, .ref (a 0))]) (h : pX5_swap_16 Q σ), W p l e rX5_swap s m args below meth c H locs 0 0 (MQ below (QWi Q (fun u H => va_P D classes (wMo κ τ a u) H) (cA a 13)) args s 0 0 (cA a 13)) (F0 m 16 ls []) := by
  obtain ⟨hx, hb, hml, hown, hts, hr, hlk, hE⟩ := id Cc
  intro σ H locs hPt hS ls hl h
  unfold pX5_swap_16 at h
  refine lv_aload_n hx hb dX5_swap_16 rfl (lv_at hl 0 rfl) ?_
  refine lv_ldc (own := RX5) (v := (-1000001)) hx hb hown (tw_842 hts) dX5_swap_17 ?_
  refine kWi (kV Cc (mX5_finding l D κ τ a hIt h) (qX5_finding hts (tw_843 hts) ⟨(Nat.le_of_ble_eq_true rfl), (Nat.le_of_ble_eq_true rfl)⟩) (va_recv hE.1 hPt (ci := 5) (q0 := 0) rfl rfl) (rest := []) hPt rfl hl.1 rfl (Nat.le_of_ble_eq_true rfl) dX5_swap_19 ⟨Nat.zero_le _, Nat.zero_le _⟩) hS (fun q h9 => h9) (fun r19 u19 H1 locs1 h hB hk hS1 => ?_)
  have hPt := hB
  have hS := hS1
  exact W.iret (v := r19) hx hb hr (fun t ht _ => QWi.mk (u := u19) h hPt hS ht) hS.2.2 dX5_swap_22 (hlocks := hlk)
set_option maxHeartbeats 4000000 in
set_option maxRecDepth 100000 in
theorem mX5_swap (l : Launch) (D : va_G) (κ : Nat → ClassId) (τ : Nat → Nat) (a : Nat → Nat) {σ : Mx} {x1 : Int32} {x2 : Int32} {Q : Int32 → Mx → Prop} (hIt : Ij a 13) (h : pX5_swap σ x1 x2 Q) : Met l yX5_swap (wz yX5_swap cX5_swap 3 (some .int)) rX5_swap (va_Pc [.ref (a 0), .int x1, .int x2] (PE D κ (fun H => va_P D classes (wMo κ τ a σ) H))) (QWi Q (fun u H => va_P D classes (wMo κ τ a u) H) (cA a 13)) 0 0 (cA a 13) := by
  refine Met_of l (own := RX5) (by decide) rfl (Nat.le_of_ble_eq_true rfl) (fun p e s m below meth c Cc hPP ls hl => ?_)
  obtain ⟨hx, hb, hml, hown, hts, hr, hlk, hE⟩ := id Cc
  have hl : lv_has ls 3 [(0, .ref (a 0)), (1, .int x1), (2, .int x2)] := hl
  have hPt := hPP
  have hS : va_S (cA a 13) s.heap s.heap [] := va_S.rf
  unfold pX5_swap at h
  refine lv_aload_n hx hb dX5_swap_0 rfl (lv_at hl 0 rfl) ?_
  refine lv_iload_n hx hb dX5_swap_1 rfl (lv_at hl 1 rfl) ?_
  refine kR (kV Cc (mX5_isPiece l D κ τ a h) (qX5_isPiece hts (tw_873 hts) ⟨(Nat.le_of_ble_eq_true rfl), (Nat.le_of_ble_eq_true rfl)⟩) (va_recv hE.1 hPt (ci := 5) (q0 := 0) rfl rfl) (rest := []) hPt rfl hl.1 rfl (Nat.le_of_ble_eq_true rfl) dX5_swap_2 ⟨Nat.zero_le _, Nat.zero_le _⟩) (fun r2 h => ?_)
  refine lv_if_eq (tgt := 16) hx hb dX5_swap_5 (by decide) (fun c5 => ?_) (fun c5 => ?_)
  · have h := h.1 c5
    exact bX5_swap_16 Cc hIt σ _ _ hPt hS _ (lv_sub hl [0] rfl) h
  · have h := h.2 c5
    refine lv_aload_n hx hb dX5_swap_8 rfl (lv_at hl 0 rfl) ?_
    refine lv_iload_n hx hb dX5_swap_9 rfl (lv_at hl 2 rfl) ?_
    refine kR (kV Cc (mX5_isPiece l D κ τ a h) (qX5_isPiece hts (tw_873 hts) ⟨(Nat.le_of_ble_eq_true rfl), (Nat.le_of_ble_eq_true rfl)⟩) (va_recv hE.1 hPt (ci := 5) (q0 := 0) rfl rfl) (rest := []) hPt rfl hl.1 rfl (Nat.le_of_ble_eq_true rfl) dX5_swap_10 ⟨Nat.zero_le _, Nat.zero_le _⟩) (fun r10 h => ?_)
    refine lv_if_ne (tgt := 23) hx hb dX5_swap_13 (by decide) (fun c13 => ?_) (fun c13 => ?_)
    · have h := h.1 c13
      refine lv_aload_n hx hb dX5_swap_23 rfl (lv_at hl 0 rfl) ?_
      refine lv_iload_n hx hb dX5_swap_24 rfl (lv_at hl 1 rfl) ?_
      refine lv_iload_n hx hb dX5_swap_25 rfl (lv_at hl 2 rfl) ?_
      refine kWv (kV Cc (mX5_exchange l D κ τ a hIt h) (qX5_exchange hts (tw_933 hts) ⟨(Nat.le_of_ble_eq_true rfl), (Nat.le_of_ble_eq_true rfl)⟩) (va_recv hE.1 hPt (ci := 5) (q0 := 0) rfl rfl) (rest := []) hPt rfl hl.1 rfl (Nat.le_of_ble_eq_true rfl) dX5_swap_26 ⟨Nat.zero_le _, Nat.zero_le _⟩) hS (fun q h9 => h9) (fun  u26 H1 locs1 h hB hk hS1 => ?_)
      have hPt := hB
      have hS := hS1
      refine lv_aload_n hx hb dX5_swap_29 rfl (lv_at hl 0 rfl) ?_
      refine kR (kV Cc (mX5_sumNow l D κ τ a h) (qX5_sumNow hts (tw_937 hts) ⟨(Nat.le_of_ble_eq_true rfl), (Nat.le_of_ble_eq_true rfl)⟩) (va_recv hE.1 hPt (ci := 5) (q0 := 0) rfl rfl) (rest := []) hPt rfl hl.1 rfl (Nat.le_of_ble_eq_true rfl) dX5_swap_30 ⟨Nat.zero_le _, Nat.zero_le _⟩) (fun r30 h => ?_)
      exact W.iret (v := r30) hx hb hr (fun t ht _ => QWi.mk (u := u26) h hPt hS ht) hS.2.2 dX5_swap_33 (hlocks := hlk)
    · have h := h.2 c13
      exact bX5_swap_16 Cc hIt σ _ _ hPt hS _ (lv_sub hl [0] rfl) h
theorem qX5_swap {R : Room} {s : State} {args : Array Value} {own : String} {idx : Nat} (hts : ∀ w ∈ gG, w.before args s = true) (hl : (Cond.methodLink own idx yX5_swap).before args s = true) (hR : rX5_swap.frames + 1 ≤ R.frames ∧ 8 + (3 + 11) + rX5_swap.locals ≤ R.locals) : CallW R s args own RX5 idx yX5_swap cX5_swap 3 (some .int) (wz yX5_swap cX5_swap 3 (some .int)) rX5_swap 0 0 2 := ⟨kw 2 hts mw_932 rfl rfl (tw_75 hts) hl (by decide +kernel) hR, tw_930 hts, tw_931 hts⟩
abbrev rX5_year : Room := { frames := 3, cells := 0, slots := 0, locals := 64 }
def pX5_year_103 (Q : Mx → Prop) (σ : Mx) : Prop := vp_in 0 67 ∧ (∀ v118 : Int32, v118 = (if ((σ 0 (0 : Int32).toNatClampNeg) + 1) < 99999 then ((σ 0 (0 : Int32).toNatClampNeg) + 1) else 99999) → (vp_in 0 67 ∧ (Q (st σ 0 (0 : Int32).toNatClampNeg v118))))
def pX5_year_50s  (ih50 : Int32 → Mx → Prop) (Q : Mx → Prop) (x3 : Int32) (σ : Mx) : Prop := vp_in 1 67 ∧ (((σ 0 (1 : Int32).toNatClampNeg) ≤ x3 → (pX5_year_103 Q σ)) ∧ (¬ (σ 0 (1 : Int32).toNatClampNeg) ≤ x3 → (vp_in 0 67 ∧ ((¬ ((σ 0 (0 : Int32).toNatClampNeg) - (σ 0 (0 : Int32).toNatClampNeg) / 3 * 3) = 2 → (pX5_year_103 Q σ)) ∧ (((σ 0 (0 : Int32).toNatClampNeg) - (σ 0 (0 : Int32).toNatClampNeg) / 3 * 3) = 2 → (pX5_pieceAt x3 1 (fun r78 => (pX5_pieceIs σ x3 1 (fun r84 => (pX5_grows σ x3 (fun r89 => (vp_in r78 67 ∧ (ih50 (x3 + 1) (st σ 0 r78.toNatClampNeg ((r84 + r89) - (r84 + r89) / 10 * 10)))))))))))))))
noncomputable def pX5_year_50 (Q : Mx → Prop) (n : Nat) : Int32 → Mx → Prop := Nat.rec (motive := fun _ => Int32 → Mx → Prop) (fun _ _ => False) (fun _ ih => pX5_year_50s ih Q) n
def pX5_year_48 (Q : Mx → Prop) (σ : Mx) : Prop := ∃ n, pX5_year_50 Q n 0 σ
def pX5_year (σ : Mx)  (Q : Mx → Prop) : Prop := pX5_placeNow σ (fun r5 => (vp_in r5 67 ∧ (∀ v12 : Int32, v12 = ((σ 0 r5.toNatClampNeg) / 10) → (pX5_placeNow σ (fun r18 => (vp_in r18 67 ∧ (∀ v25 : Int32, v25 = ((σ 0 r18.toNatClampNeg) - (σ 0 r18.toNatClampNeg) / 10 * 10) → (pX5_isPiece σ v12 (fun r28 => ((r28 = 0 → (pX5_year_48 Q σ)) ∧ (¬ r28 = 0 → (pX5_isPiece σ v25 (fun r36 => ((r36 = 0 → (pX5_year_48 Q σ)) ∧ (¬ r36 = 0 → (pX5_exchange σ v12 v25 (fun u45 => (pX5_year_48 Q u45))))))))))))))))))
set_option maxHeartbeats 4000000 in
set_option maxRecDepth 100000 in
theorem bX5_year_103 {p : Program} {l : Launch} {e : Env} {s : State} {m : MethodId} {args : Array Value} {below : List Frame} {meth : Method} {c : Code} {D : va_G} {κ : Nat → ClassId} {τ : Nat → Nat} {a : Nat → Nat}   {Q : Mx → Prop} (Cc : Cx D κ RX5 cX5_year 4 none p s m args meth c) (hIt : Ij a 13)   : ∀ (σ : Mx) (H : Heap) (locs : List Loc) (hPt : va_P D classes (wMo κ τ a σ) H) (hS : va_S (cA a 13) s.heap H locs) (ls : Array Slot) (hl : lv_has ls 4 [(0, .ref (a 0))]) (h : pX5_year_103 Q σ), W p l e rX5_year s m args below meth c H locs 0 0 (MQ below (QWv Q (fun u H => va_P D classes (wMo κ τ a u) H) (cA a 13)) args s 0 0 (cA a 13)) (F0 m 103 ls []) := by
  obtain ⟨hx, hb, hml, hown, hts, hr, hlk, hE⟩ := id Cc
  intro σ H locs hPt hS ls hl h
  unfold pX5_year_103 at h
  refine lv_aload_n hx hb dX5_year_103 rfl (lv_at hl 0 rfl) ?_
  refine gMo_0 Cc hPt (tw_761 hts) dX5_year_104 ?_
  refine lv_iconst (v := 0) hx hb dX5_year_107 (by decide) ?_
  refine lv_ldc (own := RX5) (v := 99999) hx hb hown (tw_945 hts) dX5_year_108 ?_
  refine lv_aload_n hx hb dX5_year_110 rfl (lv_at hl 0 rfl) ?_
  refine gMo_0 Cc hPt (tw_761 hts) dX5_year_111 ?_
  refine lv_iconst (v := 0) hx hb dX5_year_114 (by decide) ?_
  refine lMo_0 Cc hPt h.1 dX5_year_115 ?_
  have h := h.2
  refine lv_iconst (v := 1) hx hb dX5_year_116 (by decide) ?_
  refine lv_iadd hx hb dX5_year_117 ?_
  refine va_mmin hx hb (hml.trans hl.1.symm) hown (tw_959 hts) (tw_417 hts) (tw_76 hts) (tw_418 hts) (Nat.le_of_ble_eq_true rfl) (Nat.le_of_ble_eq_true rfl) (Nat.zero_le _) (Nat.zero_le _) dX5_year_118 ?_
  refine lv_topi (fun v118 e118 => ?_)
  have h := h v118 e118
  refine sMo_0 Cc hPt hIt hS ⟨1, by decide, rfl⟩ h.1 dX5_year_121 (fun H1 locs1 hB hS1 hk => ?_)
  have h := h.2
  have hPt := hB
  have hS := hS1
  exact W.vret hx hb hr (fun t ht _ => QWv.mk (u := (st σ 0 (0 : Int32).toNatClampNeg v118)) h hPt hS ht) hS.2.2 dX5_year_122 (hlocks := hlk)
set_option maxHeartbeats 4000000 in
set_option maxRecDepth 100000 in
theorem bX5_year_50 {p : Program} {l : Launch} {e : Env} {s : State} {m : MethodId} {args : Array Value} {below : List Frame} {meth : Method} {c : Code} {D : va_G} {κ : Nat → ClassId} {τ : Nat → Nat} {a : Nat → Nat}   {Q : Mx → Prop} (Cc : Cx D κ RX5 cX5_year 4 none p s m args meth c) (hIt : Ij a 13)   (n : Nat) : ∀ (x3 : Int32) (σ : Mx) (H : Heap) (locs : List Loc) (hPt : va_P D classes (wMo κ τ a σ) H) (hS : va_S (cA a 13) s.heap H locs) (ls : Array Slot) (hl : lv_has ls 4 [(0, .ref (a 0)), (3, .int x3)]) (h : pX5_year_50 Q n x3 σ), W p l e rX5_year s m args below meth c H locs 0 0 (MQ below (QWv Q (fun u H => va_P D classes (wMo κ τ a u) H) (cA a 13)) args s 0 0 (cA a 13)) (F0 m 50 ls []) := by
  obtain ⟨hx, hb, hml, hown, hts, hr, hlk, hE⟩ := id Cc
  induction n with
  | zero =>
    intro x3 σ H locs hPt hS ls hl h
    exact absurd h (fun z => z)
  | succ n hih50 =>
    intro x3 σ H locs hPt hS ls hl h
    have h : pX5_year_50s (pX5_year_50 Q n) Q x3 σ := h
    unfold pX5_year_50s at h
    refine lv_iload_n hx hb dX5_year_50 rfl (lv_at hl 1 rfl) ?_
    refine lv_aload_n hx hb dX5_year_51 rfl (lv_at hl 0 rfl) ?_
    refine gMo_0 Cc hPt (tw_761 hts) dX5_year_52 ?_
    refine lv_iconst (v := 1) hx hb dX5_year_55 (by decide) ?_
    refine lMo_0 Cc hPt h.1 dX5_year_56 ?_
    have h := h.2
    refine lv_icmp_ge (tgt := 103) hx hb dX5_year_57 (by decide) (fun c57 => ?_) (fun c57 => ?_)
    · have h := h.1 c57
      exact bX5_year_103 Cc hIt σ _ _ hPt hS _ (lv_sub hl [0] rfl) h
    · have h := h.2 c57
      refine lv_aload_n hx hb dX5_year_60 rfl (lv_at hl 0 rfl) ?_
      refine gMo_0 Cc hPt (tw_761 hts) dX5_year_61 ?_
      refine lv_iconst (v := 0) hx hb dX5_year_64 (by decide) ?_
      refine lMo_0 Cc hPt h.1 dX5_year_65 ?_
      have h := h.2
      refine lv_iconst (v := 3) hx hb dX5_year_66 (by decide) ?_
      refine lv_irem hx hb dX5_year_67 (by decide) ?_
      refine lv_iconst (v := 2) hx hb dX5_year_68 (by decide) ?_
      refine lv_icmp_ne (tgt := 103) hx hb dX5_year_69 (by decide) (fun c69 => ?_) (fun c69 => ?_)
      · have h := h.1 c69
        exact bX5_year_103 Cc hIt σ _ _ hPt hS _ (lv_sub hl [0] rfl) h
      · have h := h.2 c69
        refine lv_aload_n hx hb dX5_year_72 rfl (lv_at hl 0 rfl) ?_
        refine gMo_0 Cc hPt (tw_761 hts) dX5_year_73 ?_
        refine lv_iload_n hx hb dX5_year_76 rfl (lv_at hl 1 rfl) ?_
        refine lv_iconst (v := 1) hx hb dX5_year_77 (by decide) ?_
        refine kR (kS Cc (mX5_pieceAt l D κ h) (qX5_pieceAt hts (tw_866 hts) ⟨(Nat.le_of_ble_eq_true rfl), (Nat.le_of_ble_eq_true rfl)⟩) (rest := [.ref (a 1)]) trivial rfl hl.1 rfl (Nat.le_of_ble_eq_true rfl) dX5_year_78 ⟨Nat.zero_le _, Nat.zero_le _⟩) (fun r78 h => ?_)
        refine lv_aload_n hx hb dX5_year_81 rfl (lv_at hl 0 rfl) ?_
        refine lv_iload_n hx hb dX5_year_82 rfl (lv_at hl 1 rfl) ?_
        refine lv_iconst (v := 1) hx hb dX5_year_83 (by decide) ?_
        refine kR (kV Cc (mX5_pieceIs l D κ τ a h) (qX5_pieceIs hts (tw_889 hts) ⟨(Nat.le_of_ble_eq_true rfl), (Nat.le_of_ble_eq_true rfl)⟩) (va_recv hE.1 hPt (ci := 5) (q0 := 0) rfl rfl) (rest := [.int r78, .ref (a 1)]) hPt rfl hl.1 rfl (Nat.le_of_ble_eq_true rfl) dX5_year_84 ⟨Nat.zero_le _, Nat.zero_le _⟩) (fun r84 h => ?_)
        refine lv_aload_n hx hb dX5_year_87 rfl (lv_at hl 0 rfl) ?_
        refine lv_iload_n hx hb dX5_year_88 rfl (lv_at hl 1 rfl) ?_
        refine kR (kV Cc (mX5_grows l D κ τ a h) (qX5_grows hts (tw_885 hts) ⟨(Nat.le_of_ble_eq_true rfl), (Nat.le_of_ble_eq_true rfl)⟩) (va_recv hE.1 hPt (ci := 5) (q0 := 0) rfl rfl) (rest := [.int r84, .int r78, .ref (a 1)]) hPt rfl hl.1 rfl (Nat.le_of_ble_eq_true rfl) dX5_year_89 ⟨Nat.zero_le _, Nat.zero_le _⟩) (fun r89 h => ?_)
        refine lv_iadd hx hb dX5_year_92 ?_
        refine lv_bipush (v := 10) hx hb dX5_year_93 (by decide) ?_
        refine lv_irem hx hb dX5_year_95 (by decide) ?_
        refine sMo_0 Cc hPt hIt hS ⟨1, by decide, rfl⟩ h.1 dX5_year_96 (fun H1 locs1 hB hS1 hk => ?_)
        have h := h.2
        have hPt := hB
        have hS := hS1
        refine lv_iinc (v := (x3 + 1)) (lv' := [(3, .int (x3 + 1)), (0, .ref (a 0))]) hx hb dX5_year_97 hl (k := 1) rfl rfl (by decide) rfl (fun ls hl => ?_)
        refine lv_goto (tgt := 50) hx hb dX5_year_100 (by decide) ?_
        exact hih50 (x3 + 1) (st σ 0 r78.toNatClampNeg ((r84 + r89) - (r84 + r89) / 10 * 10)) _ _ hPt hS _ (lv_sub hl [1, 0] rfl) h
set_option maxHeartbeats 4000000 in
set_option maxRecDepth 100000 in
theorem bX5_year_48 {p : Program} {l : Launch} {e : Env} {s : State} {m : MethodId} {args : Array Value} {below : List Frame} {meth : Method} {c : Code} {D : va_G} {κ : Nat → ClassId} {τ : Nat → Nat} {a : Nat → Nat}   {Q : Mx → Prop} (Cc : Cx D κ RX5 cX5_year 4 none p s m args meth c) (hIt : Ij a 13)   : ∀ (σ : Mx) (H : Heap) (locs : List Loc) (hPt : va_P D classes (wMo κ τ a σ) H) (hS : va_S (cA a 13) s.heap H locs) (ls : Array Slot) (hl : lv_has ls 4 [(0, .ref (a 0))]) (h : pX5_year_48 Q σ), W p l e rX5_year s m args below meth c H locs 0 0 (MQ below (QWv Q (fun u H => va_P D classes (wMo κ τ a u) H) (cA a 13)) args s 0 0 (cA a 13)) (F0 m 48 ls []) := by
  obtain ⟨hx, hb, hml, hown, hts, hr, hlk, hE⟩ := id Cc
  intro σ H locs hPt hS ls hl h
  unfold pX5_year_48 at h
  refine lv_iconst (v := 0) hx hb dX5_year_48 (by decide) ?_
  refine lv_istore_n (lv' := [(3, .int 0), (0, .ref (a 0))]) hx hb dX5_year_49 rfl hl (by decide) rfl (fun ls hl => ?_)
  obtain ⟨n, h⟩ := h
  exact bX5_year_50 Cc hIt n 0 σ _ _ hPt hS _ (lv_sub hl [1, 0] rfl) h
set_option maxHeartbeats 4000000 in
set_option maxRecDepth 100000 in
theorem mX5_year (l : Launch) (D : va_G) (κ : Nat → ClassId) (τ : Nat → Nat) (a : Nat → Nat) {σ : Mx}  {Q : Mx → Prop} (hIt : Ij a 13) (h : pX5_year σ  Q) : Met l yX5_year (wz yX5_year cX5_year 4 none) rX5_year (va_Pc [.ref (a 0)] (PE D κ (fun H => va_P D classes (wMo κ τ a σ) H))) (QWv Q (fun u H => va_P D classes (wMo κ τ a u) H) (cA a 13)) 0 0 (cA a 13) := by
  refine Met_of l (own := RX5) (by decide) rfl (Nat.le_of_ble_eq_true rfl) (fun p e s m below meth c Cc hPP ls hl => ?_)
  obtain ⟨hx, hb, hml, hown, hts, hr, hlk, hE⟩ := id Cc
  have hl : lv_has ls 4 [(0, .ref (a 0))] := hl
  have hPt := hPP
  have hS : va_S (cA a 13) s.heap s.heap [] := va_S.rf
  unfold pX5_year at h
  refine lv_aload_n hx hb dX5_year_0 rfl (lv_at hl 0 rfl) ?_
  refine gMo_0 Cc hPt (tw_761 hts) dX5_year_1 ?_
  refine lv_aload_n hx hb dX5_year_4 rfl (lv_at hl 0 rfl) ?_
  refine kR (kV Cc (mX5_placeNow l D κ τ a h) (qX5_placeNow hts (tw_955 hts) ⟨(Nat.le_of_ble_eq_true rfl), (Nat.le_of_ble_eq_true rfl)⟩) (va_recv hE.1 hPt (ci := 5) (q0 := 0) rfl rfl) (rest := [.ref (a 1)]) hPt rfl hl.1 rfl (Nat.le_of_ble_eq_true rfl) dX5_year_5 ⟨Nat.zero_le _, Nat.zero_le _⟩) (fun r5 h => ?_)
  refine lMo_0 Cc hPt h.1 dX5_year_8 ?_
  have h := h.2
  refine lv_bipush (v := 10) hx hb dX5_year_9 (by decide) ?_
  refine lv_idiv hx hb dX5_year_11 (by decide) ?_
  refine lv_topi (fun v12 e12 => ?_)
  have h := h v12 e12
  refine lv_istore_n (lv' := [(1, .int v12), (0, .ref (a 0))]) hx hb dX5_year_12 rfl hl (by decide) rfl (fun ls hl => ?_)
  refine lv_aload_n hx hb dX5_year_13 rfl (lv_at hl 1 rfl) ?_
  refine gMo_0 Cc hPt (tw_761 hts) dX5_year_14 ?_
  refine lv_aload_n hx hb dX5_year_17 rfl (lv_at hl 1 rfl) ?_
  refine kR (kV Cc (mX5_placeNow l D κ τ a h) (qX5_placeNow hts (tw_955 hts) ⟨(Nat.le_of_ble_eq_true rfl), (Nat.le_of_ble_eq_true rfl)⟩) (va_recv hE.1 hPt (ci := 5) (q0 := 0) rfl rfl) (rest := [.ref (a 1)]) hPt rfl hl.1 rfl (Nat.le_of_ble_eq_true rfl) dX5_year_18 ⟨Nat.zero_le _, Nat.zero_le _⟩) (fun r18 h => ?_)
  refine lMo_0 Cc hPt h.1 dX5_year_21 ?_
  have h := h.2
  refine lv_bipush (v := 10) hx hb dX5_year_22 (by decide) ?_
  refine lv_irem hx hb dX5_year_24 (by decide) ?_
  refine lv_topi (fun v25 e25 => ?_)
  have h := h v25 e25
  refine lv_istore_n (lv' := [(2, .int v25), (1, .int v12), (0, .ref (a 0))]) hx hb dX5_year_25 rfl hl (by decide) rfl (fun ls hl => ?_)
  refine lv_aload_n hx hb dX5_year_26 rfl (lv_at hl 2 rfl) ?_
  refine lv_iload_n hx hb dX5_year_27 rfl (lv_at hl 1 rfl) ?_
  refine kR (kV Cc (mX5_isPiece l D κ τ a h) (qX5_isPiece hts (tw_873 hts) ⟨(Nat.le_of_ble_eq_true rfl), (Nat.le_of_ble_eq_true rfl)⟩) (va_recv hE.1 hPt (ci := 5) (q0 := 0) rfl rfl) (rest := []) hPt rfl hl.1 rfl (Nat.le_of_ble_eq_true rfl) dX5_year_28 ⟨Nat.zero_le _, Nat.zero_le _⟩) (fun r28 h => ?_)
  refine lv_if_eq (tgt := 48) hx hb dX5_year_31 (by decide) (fun c31 => ?_) (fun c31 => ?_)
  · have h := h.1 c31
    exact bX5_year_48 Cc hIt σ _ _ hPt hS _ (lv_sub hl [2] rfl) h
  · have h := h.2 c31
    refine lv_aload_n hx hb dX5_year_34 rfl (lv_at hl 2 rfl) ?_
    refine lv_iload_n hx hb dX5_year_35 rfl (lv_at hl 0 rfl) ?_
    refine kR (kV Cc (mX5_isPiece l D κ τ a h) (qX5_isPiece hts (tw_873 hts) ⟨(Nat.le_of_ble_eq_true rfl), (Nat.le_of_ble_eq_true rfl)⟩) (va_recv hE.1 hPt (ci := 5) (q0 := 0) rfl rfl) (rest := []) hPt rfl hl.1 rfl (Nat.le_of_ble_eq_true rfl) dX5_year_36 ⟨Nat.zero_le _, Nat.zero_le _⟩) (fun r36 h => ?_)
    refine lv_if_eq (tgt := 48) hx hb dX5_year_39 (by decide) (fun c39 => ?_) (fun c39 => ?_)
    · have h := h.1 c39
      exact bX5_year_48 Cc hIt σ _ _ hPt hS _ (lv_sub hl [2] rfl) h
    · have h := h.2 c39
      refine lv_aload_n hx hb dX5_year_42 rfl (lv_at hl 2 rfl) ?_
      refine lv_iload_n hx hb dX5_year_43 rfl (lv_at hl 1 rfl) ?_
      refine lv_iload_n hx hb dX5_year_44 rfl (lv_at hl 0 rfl) ?_
      refine kWv (kV Cc (mX5_exchange l D κ τ a hIt h) (qX5_exchange hts (tw_933 hts) ⟨(Nat.le_of_ble_eq_true rfl), (Nat.le_of_ble_eq_true rfl)⟩) (va_recv hE.1 hPt (ci := 5) (q0 := 0) rfl rfl) (rest := []) hPt rfl hl.1 rfl (Nat.le_of_ble_eq_true rfl) dX5_year_45 ⟨Nat.zero_le _, Nat.zero_le _⟩) hS (fun q h9 => h9) (fun  u45 H1 locs1 h hB hk hS1 => ?_)
      have hPt := hB
      have hS := hS1
      exact bX5_year_48 Cc hIt u45 _ _ hPt hS _ (lv_sub hl [2] rfl) h
theorem qX5_year {R : Room} {s : State} {args : Array Value} {own : String} {idx : Nat} (hts : ∀ w ∈ gG, w.before args s = true) (hl : (Cond.methodLink own idx yX5_year).before args s = true) (hR : rX5_year.frames + 1 ≤ R.frames ∧ 8 + (4 + 11) + rX5_year.locals ≤ R.locals) : CallW R s args own RX5 idx yX5_year cX5_year 4 none (wz yX5_year cX5_year 4 none) rX5_year 0 0 0 := ⟨kw 0 hts mw_954 rfl rfl (tw_75 hts) hl (by decide +kernel) hR, tw_953 hts, tw_38 hts⟩
abbrev rX5_yearsGo : Room := { frames := 4, cells := 0, slots := 0, locals := 87 }
def pX5_yearsGo_2s  (ih2 : Int32 → Int32 → Mx → Prop) (Q : Mx → Prop) (x1 : Int32) (x2 : Int32) (σ : Mx) : Prop := (x1 ≤ x2 → (Q σ)) ∧ (¬ x1 ≤ x2 → (pX5_year σ (fun u8 => (ih2 x1 (x2 + 1) u8))))
noncomputable def pX5_yearsGo_2 (Q : Mx → Prop) (n : Nat) : Int32 → Int32 → Mx → Prop := Nat.rec (motive := fun _ => Int32 → Int32 → Mx → Prop) (fun _ _ _ => False) (fun _ ih => pX5_yearsGo_2s ih Q) n
def pX5_yearsGo (σ : Mx) (x1 : Int32) (Q : Mx → Prop) : Prop := ∃ n, pX5_yearsGo_2 Q n x1 0 σ
set_option maxHeartbeats 4000000 in
set_option maxRecDepth 100000 in
theorem bX5_yearsGo_2 {p : Program} {l : Launch} {e : Env} {s : State} {m : MethodId} {args : Array Value} {below : List Frame} {meth : Method} {c : Code} {D : va_G} {κ : Nat → ClassId} {τ : Nat → Nat} {a : Nat → Nat}   {Q : Mx → Prop} (Cc : Cx D κ RX5 cX5_yearsGo 3 none p s m args meth c) (hIt : Ij a 13)   (n : Nat) : ∀ (x1 : Int32) (x2 : Int32) (σ : Mx) (H : Heap) (locs : List Loc) (hPt : va_P D classes (wMo κ τ a σ) H) (hS : va_S (cA a 13) s.heap H locs) (ls : Array Slot) (hl : lv_has ls 3 [(0, .ref (a 0)), (1, .int x1), (2, .int x2)]) (h : pX5_yearsGo_2 Q n x1 x2 σ), W p l e rX5_yearsGo s m args below meth c H locs 0 0 (MQ below (QWv Q (fun u H => va_P D classes (wMo κ τ a u) H) (cA a 13)) args s 0 0 (cA a 13)) (F0 m 2 ls []) := by
  obtain ⟨hx, hb, hml, hown, hts, hr, hlk, hE⟩ := id Cc
  induction n with
  | zero =>
    intro x1 x2 σ H locs hPt hS ls hl h
    exact absurd h (fun z => z)
  | succ n hih2 =>
    intro x1 x2 σ H locs hPt hS ls hl h
    have h : pX5_yearsGo_2s (pX5_yearsGo_2 Q n) Q x1 x2 σ := h
    unfold pX5_yearsGo_2s at h
    refine lv_iload_n hx hb dX5_yearsGo_2 rfl (lv_at hl 2 rfl) ?_
    refine lv_iload_n hx hb dX5_yearsGo_3 rfl (lv_at hl 1 rfl) ?_
    refine lv_icmp_ge (tgt := 17) hx hb dX5_yearsGo_4 (by decide) (fun c4 => ?_) (fun c4 => ?_)
    · have h := h.1 c4
      exact W.vret hx hb hr (fun t ht _ => QWv.mk (u := σ) h hPt hS ht) hS.2.2 dX5_yearsGo_17 (hlocks := hlk)
    · have h := h.2 c4
      refine lv_aload_n hx hb dX5_yearsGo_7 rfl (lv_at hl 0 rfl) ?_
      refine kWv (kV Cc (mX5_year l D κ τ a hIt h) (qX5_year hts (tw_951 hts) ⟨(Nat.le_of_ble_eq_true rfl), (Nat.le_of_ble_eq_true rfl)⟩) (va_recv hE.1 hPt (ci := 5) (q0 := 0) rfl rfl) (rest := []) hPt rfl hl.1 rfl (Nat.le_of_ble_eq_true rfl) dX5_yearsGo_8 ⟨Nat.zero_le _, Nat.zero_le _⟩) hS (fun q h9 => h9) (fun  u8 H1 locs1 h hB hk hS1 => ?_)
      have hPt := hB
      have hS := hS1
      refine lv_iinc (v := (x2 + 1)) (lv' := [(2, .int (x2 + 1)), (0, .ref (a 0)), (1, .int x1)]) hx hb dX5_yearsGo_11 hl (k := 2) rfl rfl (by decide) rfl (fun ls hl => ?_)
      refine lv_goto (tgt := 2) hx hb dX5_yearsGo_14 (by decide) ?_
      exact hih2 x1 (x2 + 1) u8 _ _ hPt hS _ (lv_sub hl [1, 2, 0] rfl) h
set_option maxHeartbeats 4000000 in
set_option maxRecDepth 100000 in
theorem mX5_yearsGo (l : Launch) (D : va_G) (κ : Nat → ClassId) (τ : Nat → Nat) (a : Nat → Nat) {σ : Mx} {x1 : Int32} {Q : Mx → Prop} (hIt : Ij a 13) (h : pX5_yearsGo σ x1 Q) : Met l yX5_yearsGo (wz yX5_yearsGo cX5_yearsGo 3 none) rX5_yearsGo (va_Pc [.ref (a 0), .int x1] (PE D κ (fun H => va_P D classes (wMo κ τ a σ) H))) (QWv Q (fun u H => va_P D classes (wMo κ τ a u) H) (cA a 13)) 0 0 (cA a 13) := by
  refine Met_of l (own := RX5) (by decide) rfl (Nat.le_of_ble_eq_true rfl) (fun p e s m below meth c Cc hPP ls hl => ?_)
  obtain ⟨hx, hb, hml, hown, hts, hr, hlk, hE⟩ := id Cc
  have hl : lv_has ls 3 [(0, .ref (a 0)), (1, .int x1)] := hl
  have hPt := hPP
  have hS : va_S (cA a 13) s.heap s.heap [] := va_S.rf
  unfold pX5_yearsGo at h
  refine lv_iconst (v := 0) hx hb dX5_yearsGo_0 (by decide) ?_
  refine lv_istore_n (lv' := [(2, .int 0), (0, .ref (a 0)), (1, .int x1)]) hx hb dX5_yearsGo_1 rfl hl (by decide) rfl (fun ls hl => ?_)
  obtain ⟨n, h⟩ := h
  exact bX5_yearsGo_2 Cc hIt n x1 0 σ _ _ hPt hS _ (lv_sub hl [1, 2, 0] rfl) h
theorem qX5_yearsGo {R : Room} {s : State} {args : Array Value} {own : String} {idx : Nat} (hts : ∀ w ∈ gG, w.before args s = true) (hl : (Cond.methodLink own idx yX5_yearsGo).before args s = true) (hR : rX5_yearsGo.frames + 1 ≤ R.frames ∧ 8 + (3 + 11) + rX5_yearsGo.locals ≤ R.locals) : CallW R s args own RX5 idx yX5_yearsGo cX5_yearsGo 3 none (wz yX5_yearsGo cX5_yearsGo 3 none) rX5_yearsGo 0 0 1 := ⟨kw 1 hts mw_950 rfl rfl (tw_75 hts) hl (by decide +kernel) hR, tw_949 hts, tw_37 hts⟩
abbrev rX5_go : Room := { frames := 5, cells := 0, slots := 0, locals := 113 }
def pX5_go (σ : Mx) (x1 : Int32) (Q : Int32 → Mx → Prop) : Prop := pX5_within x1 1 60 (fun r4 => ((¬ r4 = 0 → (vp_in 0 67 ∧ ((((σ 0 (0 : Int32).toNatClampNeg) + x1) ≤ 99999 → (pX5_yearsGo σ x1 (fun u39 => (pX5_sumNow u39 (fun r43 => (Q r43 u39)))))) ∧ (¬ ((σ 0 (0 : Int32).toNatClampNeg) + x1) ≤ 99999 → (pX5_finding σ (-1000005) (fun r33 u33 => (Q r33 u33))))))) ∧ (r4 = 0 → (pX5_finding σ (-1000001) (fun r13 u13 => (Q r13 u13))))))
set_option maxHeartbeats 4000000 in
set_option maxRecDepth 100000 in
theorem mX5_go (l : Launch) (D : va_G) (κ : Nat → ClassId) (τ : Nat → Nat) (a : Nat → Nat) {σ : Mx} {x1 : Int32} {Q : Int32 → Mx → Prop} (hIt : Ij a 13) (h : pX5_go σ x1 Q) : Met l yX5_go (wz yX5_go cX5_go 2 (some .int)) rX5_go (va_Pc [.ref (a 0), .int x1] (PE D κ (fun H => va_P D classes (wMo κ τ a σ) H))) (QWi Q (fun u H => va_P D classes (wMo κ τ a u) H) (cA a 13)) 0 0 (cA a 13) := by
  refine Met_of l (own := RX5) (by decide) rfl (Nat.le_of_ble_eq_true rfl) (fun p e s m below meth c Cc hPP ls hl => ?_)
  obtain ⟨hx, hb, hml, hown, hts, hr, hlk, hE⟩ := id Cc
  have hl : lv_has ls 2 [(0, .ref (a 0)), (1, .int x1)] := hl
  have hPt := hPP
  have hS : va_S (cA a 13) s.heap s.heap [] := va_S.rf
  unfold pX5_go at h
  refine lv_iload_n hx hb dX5_go_0 rfl (lv_at hl 1 rfl) ?_
  refine lv_iconst (v := 1) hx hb dX5_go_1 (by decide) ?_
  refine lv_bipush (v := 60) hx hb dX5_go_2 (by decide) ?_
  refine kR (kS Cc (mX5_within l D κ h) (qX5_within hts (tw_832 hts) ⟨(Nat.le_of_ble_eq_true rfl), (Nat.le_of_ble_eq_true rfl)⟩) (rest := []) trivial rfl hl.1 rfl (Nat.le_of_ble_eq_true rfl) dX5_go_4 ⟨Nat.zero_le _, Nat.zero_le _⟩) (fun r4 h => ?_)
  refine lv_if_ne (tgt := 17) hx hb dX5_go_7 (by decide) (fun c7 => ?_) (fun c7 => ?_)
  · have h := h.1 c7
    refine lv_aload_n hx hb dX5_go_17 rfl (lv_at hl 0 rfl) ?_
    refine gMo_0 Cc hPt (tw_761 hts) dX5_go_18 ?_
    refine lv_iconst (v := 0) hx hb dX5_go_21 (by decide) ?_
    refine lMo_0 Cc hPt h.1 dX5_go_22 ?_
    have h := h.2
    refine lv_iload_n hx hb dX5_go_23 rfl (lv_at hl 1 rfl) ?_
    refine lv_iadd hx hb dX5_go_24 ?_
    refine lv_ldc (own := RX5) (v := 99999) hx hb hown (tw_945 hts) dX5_go_25 ?_
    refine lv_icmp_le (tgt := 37) hx hb dX5_go_27 (by decide) (fun c27 => ?_) (fun c27 => ?_)
    · have h := h.1 c27
      refine lv_aload_n hx hb dX5_go_37 rfl (lv_at hl 0 rfl) ?_
      refine lv_iload_n hx hb dX5_go_38 rfl (lv_at hl 1 rfl) ?_
      refine kWv (kV Cc (mX5_yearsGo l D κ τ a hIt h) (qX5_yearsGo hts (tw_947 hts) ⟨(Nat.le_of_ble_eq_true rfl), (Nat.le_of_ble_eq_true rfl)⟩) (va_recv hE.1 hPt (ci := 5) (q0 := 0) rfl rfl) (rest := []) hPt rfl hl.1 rfl (Nat.le_of_ble_eq_true rfl) dX5_go_39 ⟨Nat.zero_le _, Nat.zero_le _⟩) hS (fun q h9 => h9) (fun  u39 H1 locs1 h hB hk hS1 => ?_)
      have hPt := hB
      have hS := hS1
      refine lv_aload_n hx hb dX5_go_42 rfl (lv_at hl 0 rfl) ?_
      refine kR (kV Cc (mX5_sumNow l D κ τ a h) (qX5_sumNow hts (tw_937 hts) ⟨(Nat.le_of_ble_eq_true rfl), (Nat.le_of_ble_eq_true rfl)⟩) (va_recv hE.1 hPt (ci := 5) (q0 := 0) rfl rfl) (rest := []) hPt rfl hl.1 rfl (Nat.le_of_ble_eq_true rfl) dX5_go_43 ⟨Nat.zero_le _, Nat.zero_le _⟩) (fun r43 h => ?_)
      exact W.iret (v := r43) hx hb hr (fun t ht _ => QWi.mk (u := u39) h hPt hS ht) hS.2.2 dX5_go_46 (hlocks := hlk)
    · have h := h.2 c27
      refine lv_aload_n hx hb dX5_go_30 rfl (lv_at hl 0 rfl) ?_
      refine lv_ldc (own := RX5) (v := (-1000005)) hx hb hown (tw_946 hts) dX5_go_31 ?_
      refine kWi (kV Cc (mX5_finding l D κ τ a hIt h) (qX5_finding hts (tw_843 hts) ⟨(Nat.le_of_ble_eq_true rfl), (Nat.le_of_ble_eq_true rfl)⟩) (va_recv hE.1 hPt (ci := 5) (q0 := 0) rfl rfl) (rest := []) hPt rfl hl.1 rfl (Nat.le_of_ble_eq_true rfl) dX5_go_33 ⟨Nat.zero_le _, Nat.zero_le _⟩) hS (fun q h9 => h9) (fun r33 u33 H1 locs1 h hB hk hS1 => ?_)
      have hPt := hB
      have hS := hS1
      exact W.iret (v := r33) hx hb hr (fun t ht _ => QWi.mk (u := u33) h hPt hS ht) hS.2.2 dX5_go_36 (hlocks := hlk)
  · have h := h.2 c7
    refine lv_aload_n hx hb dX5_go_10 rfl (lv_at hl 0 rfl) ?_
    refine lv_ldc (own := RX5) (v := (-1000001)) hx hb hown (tw_842 hts) dX5_go_11 ?_
    refine kWi (kV Cc (mX5_finding l D κ τ a hIt h) (qX5_finding hts (tw_843 hts) ⟨(Nat.le_of_ble_eq_true rfl), (Nat.le_of_ble_eq_true rfl)⟩) (va_recv hE.1 hPt (ci := 5) (q0 := 0) rfl rfl) (rest := []) hPt rfl hl.1 rfl (Nat.le_of_ble_eq_true rfl) dX5_go_13 ⟨Nat.zero_le _, Nat.zero_le _⟩) hS (fun q h9 => h9) (fun r13 u13 H1 locs1 h hB hk hS1 => ?_)
    have hPt := hB
    have hS := hS1
    exact W.iret (v := r13) hx hb hr (fun t ht _ => QWi.mk (u := u13) h hPt hS ht) hS.2.2 dX5_go_16 (hlocks := hlk)
theorem qX5_go {R : Room} {s : State} {args : Array Value} {own : String} {idx : Nat} (hts : ∀ w ∈ gG, w.before args s = true) (hl : (Cond.methodLink own idx yX5_go).before args s = true) (hR : rX5_go.frames + 1 ≤ R.frames ∧ 8 + (2 + 11) + rX5_go.locals ≤ R.locals) : CallW R s args own RX5 idx yX5_go cX5_go 2 (some .int) (wz yX5_go cX5_go 2 (some .int)) rX5_go 0 0 1 := ⟨kw 1 hts mw_944 rfl rfl (tw_75 hts) hl (by decide +kernel) hR, tw_942 hts, tw_943 hts⟩
abbrev rX5_isGranted : Room := { frames := 2, cells := 0, slots := 0, locals := 43 }
def pX5_isGranted_41 (σ : Mx) (Q : Int32 → Prop) (y0 : Int32) : Prop := (y0 = 0 ∨ y0 = 1) ∧ (Q y0)
def pX5_isGranted_40 (σ : Mx) (Q : Int32 → Prop)  : Prop := pX5_isGranted_41 σ Q 0
def pX5_isGranted (σ : Mx) (x1 : Int32) (Q : Int32 → Prop) : Prop := pX5_whereLies σ x1 (fun r2 => (∀ v7 : Int32, v7 = (r2 + 1) → (vp_in 1 67 ∧ (((σ 0 (1 : Int32).toNatClampNeg) ≤ v7 → (pX5_isGranted_40 σ Q )) ∧ (¬ (σ 0 (1 : Int32).toNatClampNeg) ≤ v7 → (vp_in (59 + v7) 67 ∧ (pX5_pieceIs σ x1 3 (fun r30 => ((¬ (σ 0 (59 + v7).toNatClampNeg) = r30 → (pX5_isGranted_40 σ Q )) ∧ ((σ 0 (59 + v7).toNatClampNeg) = r30 → (pX5_isGranted_41 σ Q 1)))))))))))
set_option maxHeartbeats 4000000 in
set_option maxRecDepth 100000 in
theorem bX5_isGranted_41 {p : Program} {l : Launch} {e : Env} {s : State} {m : MethodId} {args : Array Value} {below : List Frame} {meth : Method} {c : Code} {D : va_G} {κ : Nat → ClassId} {τ : Nat → Nat} {a : Nat → Nat} {σ : Mx}  {Q : Int32 → Prop} (Cc : Cx D κ RX5 cX5_isGranted 3 (some .boolean) p s m args meth c)  (hPt : va_P D classes (wMo κ τ a σ) s.heap)  : ∀ (y0 : Int32) (ls : Array Slot) (hl : lv_has ls 3 []) (h : pX5_isGranted_41 σ Q y0), W p l e rX5_isGranted s m args below meth c s.heap [] 0 0 (MQ below (RQ Q) args s 0 0 (fun _ => False)) (F0 m 41 ls [.int y0]) := by
  obtain ⟨hx, hb, hml, hown, hts, hr, hlk, hE⟩ := id Cc
  intro y0 ls hl h
  unfold pX5_isGranted_41 at h
  exact W.zret (v := y0) (ty := .boolean) hx hb hr (bool_nar h.1) (fun t ht _ => RQ.mk h.2 ht) (fun _ h9 => by cases h9) dX5_isGranted_41 (hlocks := hlk)
set_option maxHeartbeats 4000000 in
set_option maxRecDepth 100000 in
theorem bX5_isGranted_40 {p : Program} {l : Launch} {e : Env} {s : State} {m : MethodId} {args : Array Value} {below : List Frame} {meth : Method} {c : Code} {D : va_G} {κ : Nat → ClassId} {τ : Nat → Nat} {a : Nat → Nat} {σ : Mx}  {Q : Int32 → Prop} (Cc : Cx D κ RX5 cX5_isGranted 3 (some .boolean) p s m args meth c)  (hPt : va_P D classes (wMo κ τ a σ) s.heap)  : ∀ (ls : Array Slot) (hl : lv_has ls 3 []) (h : pX5_isGranted_40 σ Q ), W p l e rX5_isGranted s m args below meth c s.heap [] 0 0 (MQ below (RQ Q) args s 0 0 (fun _ => False)) (F0 m 40 ls []) := by
  obtain ⟨hx, hb, hml, hown, hts, hr, hlk, hE⟩ := id Cc
  intro ls hl h
  unfold pX5_isGranted_40 at h
  refine lv_iconst (v := 0) hx hb dX5_isGranted_40 (by decide) ?_
  exact bX5_isGranted_41 Cc hPt 0  _ (lv_sub hl [] rfl) h
set_option maxHeartbeats 4000000 in
set_option maxRecDepth 100000 in
theorem mX5_isGranted (l : Launch) (D : va_G) (κ : Nat → ClassId) (τ : Nat → Nat) (a : Nat → Nat) {σ : Mx} {x1 : Int32} {Q : Int32 → Prop}  (h : pX5_isGranted σ x1 Q) : Met l yX5_isGranted (wz yX5_isGranted cX5_isGranted 3 (some .boolean)) rX5_isGranted (va_Pc [.ref (a 0), .int x1] (PE D κ (fun H => va_P D classes (wMo κ τ a σ) H))) (RQ Q) 0 0 (fun _ => False) := by
  refine Met_of l (own := RX5) (by decide) rfl (Nat.le_of_ble_eq_true rfl) (fun p e s m below meth c Cc hPP ls hl => ?_)
  obtain ⟨hx, hb, hml, hown, hts, hr, hlk, hE⟩ := id Cc
  have hl : lv_has ls 3 [(0, .ref (a 0)), (1, .int x1)] := hl
  have hPt := hPP
  unfold pX5_isGranted at h
  refine lv_aload_n hx hb dX5_isGranted_0 rfl (lv_at hl 0 rfl) ?_
  refine lv_iload_n hx hb dX5_isGranted_1 rfl (lv_at hl 1 rfl) ?_
  refine kR (kV Cc (mX5_whereLies l D κ τ a h) (qX5_whereLies hts (tw_881 hts) ⟨(Nat.le_of_ble_eq_true rfl), (Nat.le_of_ble_eq_true rfl)⟩) (va_recv hE.1 hPt (ci := 5) (q0 := 0) rfl rfl) (rest := []) hPt rfl hl.1 rfl (Nat.le_of_ble_eq_true rfl) dX5_isGranted_2 ⟨Nat.zero_le _, Nat.zero_le _⟩) (fun r2 h => ?_)
  refine lv_iconst (v := 1) hx hb dX5_isGranted_5 (by decide) ?_
  refine lv_iadd hx hb dX5_isGranted_6 ?_
  refine lv_topi (fun v7 e7 => ?_)
  have h := h v7 e7
  refine lv_istore_n (lv' := [(2, .int v7), (0, .ref (a 0)), (1, .int x1)]) hx hb dX5_isGranted_7 rfl hl (by decide) rfl (fun ls hl => ?_)
  refine lv_iload_n hx hb dX5_isGranted_8 rfl (lv_at hl 0 rfl) ?_
  refine lv_aload_n hx hb dX5_isGranted_9 rfl (lv_at hl 1 rfl) ?_
  refine gMo_0 Cc hPt (tw_761 hts) dX5_isGranted_10 ?_
  refine lv_iconst (v := 1) hx hb dX5_isGranted_13 (by decide) ?_
  refine lMo_0 Cc hPt h.1 dX5_isGranted_14 ?_
  have h := h.2
  refine lv_icmp_ge (tgt := 40) hx hb dX5_isGranted_15 (by decide) (fun c15 => ?_) (fun c15 => ?_)
  · have h := h.1 c15
    exact bX5_isGranted_40 Cc hPt   _ (lv_sub hl [] rfl) h
  · have h := h.2 c15
    refine lv_aload_n hx hb dX5_isGranted_18 rfl (lv_at hl 1 rfl) ?_
    refine gMo_0 Cc hPt (tw_761 hts) dX5_isGranted_19 ?_
    refine lv_bipush (v := 59) hx hb dX5_isGranted_22 (by decide) ?_
    refine lv_iload_n hx hb dX5_isGranted_24 rfl (lv_at hl 0 rfl) ?_
    refine lv_iadd hx hb dX5_isGranted_25 ?_
    refine lMo_0 Cc hPt h.1 dX5_isGranted_26 ?_
    have h := h.2
    refine lv_aload_n hx hb dX5_isGranted_27 rfl (lv_at hl 1 rfl) ?_
    refine lv_iload_n hx hb dX5_isGranted_28 rfl (lv_at hl 2 rfl) ?_
    refine lv_iconst (v := 3) hx hb dX5_isGranted_29 (by decide) ?_
    refine kR (kV Cc (mX5_pieceIs l D κ τ a h) (qX5_pieceIs hts (tw_889 hts) ⟨(Nat.le_of_ble_eq_true rfl), (Nat.le_of_ble_eq_true rfl)⟩) (va_recv hE.1 hPt (ci := 5) (q0 := 0) rfl rfl) (rest := [.int (σ 0 (59 + v7).toNatClampNeg)]) hPt rfl hl.1 rfl (Nat.le_of_ble_eq_true rfl) dX5_isGranted_30 ⟨Nat.zero_le _, Nat.zero_le _⟩) (fun r30 h => ?_)
    refine lv_icmp_ne (tgt := 40) hx hb dX5_isGranted_33 (by decide) (fun c33 => ?_) (fun c33 => ?_)
    · have h := h.1 c33
      exact bX5_isGranted_40 Cc hPt   _ (lv_sub hl [] rfl) h
    · have h := h.2 c33
      refine lv_iconst (v := 1) hx hb dX5_isGranted_36 (by decide) ?_
      refine lv_goto (tgt := 41) hx hb dX5_isGranted_37 (by decide) ?_
      exact bX5_isGranted_41 Cc hPt 1  _ (lv_sub hl [] rfl) h
theorem qX5_isGranted {R : Room} {s : State} {args : Array Value} {own : String} {idx : Nat} (hts : ∀ w ∈ gG, w.before args s = true) (hl : (Cond.methodLink own idx yX5_isGranted).before args s = true) (hR : rX5_isGranted.frames + 1 ≤ R.frames ∧ 8 + (3 + 11) + rX5_isGranted.locals ≤ R.locals) : CallW R s args own RX5 idx yX5_isGranted cX5_isGranted 3 (some .boolean) (wz yX5_isGranted cX5_isGranted 3 (some .boolean)) rX5_isGranted 0 0 1 := ⟨kw 1 hts mw_975 rfl rfl (tw_75 hts) hl (by decide +kernel) hR, tw_974 hts, tw_42 hts⟩
abbrev rX5_closePlaces : Room := { frames := 4, cells := 0, slots := 0, locals := 90 }
def pX5_closePlaces_51 (σ : Mx) (ih4 : Int32 → Int32 → Prop) (Q : Int32 → Prop) (x2 : Int32) (y0 : Int32) (y1 : Int32) : Prop := ∀ v52 : Int32, v52 = (y1 ||| y0) → (ih4 v52 (x2 + 1))
def pX5_closePlaces_4s (σ : Mx) (ih4 : Int32 → Int32 → Prop) (Q : Int32 → Prop) (x1 : Int32) (x2 : Int32) : Prop := vp_in 1 67 ∧ (((σ 0 (1 : Int32).toNatClampNeg) ≤ x2 → (Q x1)) ∧ (¬ (σ 0 (1 : Int32).toNatClampNeg) ≤ x2 → (vp_in ((59 + x2) - 1) 67 ∧ (vp_in (59 + x2) 67 ∧ (pX5_gapOf σ (σ 0 ((59 + x2) - 1).toNatClampNeg) (σ 0 (59 + x2).toNatClampNeg) (fun r36 => ((¬ r36 = 0 → (pX5_closePlaces_51 σ ih4 Q x2 0 x1)) ∧ (r36 = 0 → (pX5_closePlaces_51 σ ih4 Q x2 (1 <<< ((x2 - 1) &&& 31)) x1)))))))))
noncomputable def pX5_closePlaces_4 (σ : Mx) (Q : Int32 → Prop) (n : Nat) : Int32 → Int32 → Prop := Nat.rec (motive := fun _ => Int32 → Int32 → Prop) (fun _ _ => False) (fun _ ih => pX5_closePlaces_4s σ ih Q) n
def pX5_closePlaces (σ : Mx)  (Q : Int32 → Prop) : Prop := ∃ n, pX5_closePlaces_4 σ Q n 0 1
set_option maxHeartbeats 4000000 in
set_option maxRecDepth 100000 in
theorem bX5_closePlaces_51 {p : Program} {l : Launch} {e : Env} {s : State} {m : MethodId} {args : Array Value} {below : List Frame} {meth : Method} {c : Code} {D : va_G} {κ : Nat → ClassId} {τ : Nat → Nat} {a : Nat → Nat} {σ : Mx} {ih4 : Int32 → Int32 → Prop} {Q : Int32 → Prop} (Cc : Cx D κ RX5 cX5_closePlaces 3 (some .int) p s m args meth c)  (hPt : va_P D classes (wMo κ τ a σ) s.heap) (hih4 : ∀ (x1 : Int32) (x2 : Int32) (ls : Array Slot) (hl : lv_has ls 3 [(0, .ref (a 0)), (1, .int x1), (2, .int x2)]) (h : ih4 x1 x2), W p l e rX5_closePlaces s m args below meth c s.heap [] 0 0 (MQ below (RQ Q) args s 0 0 (fun _ => False)) (F0 m 4 ls [])) : ∀ (x2 : Int32) (y0 : Int32) (y1 : Int32) (ls : Array Slot) (hl : lv_has ls 3 [(0, .ref (a 0)), (2, .int x2)]) (h : pX5_closePlaces_51 σ ih4 Q x2 y0 y1), W p l e rX5_closePlaces s m args below meth c s.heap [] 0 0 (MQ below (RQ Q) args s 0 0 (fun _ => False)) (F0 m 51 ls [.int y0, .int y1]) := by
  obtain ⟨hx, hb, hml, hown, hts, hr, hlk, hE⟩ := id Cc
  intro x2 y0 y1 ls hl h
  unfold pX5_closePlaces_51 at h
  refine lv_ior hx hb dX5_closePlaces_51 ?_
  refine lv_topi (fun v52 e52 => ?_)
  have h := h v52 e52
  refine lv_istore_n (lv' := [(1, .int v52), (0, .ref (a 0)), (2, .int x2)]) hx hb dX5_closePlaces_52 rfl hl (by decide) rfl (fun ls hl => ?_)
  refine lv_iinc (v := (x2 + 1)) (lv' := [(2, .int (x2 + 1)), (1, .int v52), (0, .ref (a 0))]) hx hb dX5_closePlaces_53 hl (k := 2) rfl rfl (by decide) rfl (fun ls hl => ?_)
  refine lv_goto (tgt := 4) hx hb dX5_closePlaces_56 (by decide) ?_
  exact hih4 v52 (x2 + 1)  _ (lv_sub hl [2, 1, 0] rfl) h
set_option maxHeartbeats 4000000 in
set_option maxRecDepth 100000 in
theorem bX5_closePlaces_4 {p : Program} {l : Launch} {e : Env} {s : State} {m : MethodId} {args : Array Value} {below : List Frame} {meth : Method} {c : Code} {D : va_G} {κ : Nat → ClassId} {τ : Nat → Nat} {a : Nat → Nat} {σ : Mx}  {Q : Int32 → Prop} (Cc : Cx D κ RX5 cX5_closePlaces 3 (some .int) p s m args meth c)  (hPt : va_P D classes (wMo κ τ a σ) s.heap)  (n : Nat) : ∀ (x1 : Int32) (x2 : Int32) (ls : Array Slot) (hl : lv_has ls 3 [(0, .ref (a 0)), (1, .int x1), (2, .int x2)]) (h : pX5_closePlaces_4 σ Q n x1 x2), W p l e rX5_closePlaces s m args below meth c s.heap [] 0 0 (MQ below (RQ Q) args s 0 0 (fun _ => False)) (F0 m 4 ls []) := by
  obtain ⟨hx, hb, hml, hown, hts, hr, hlk, hE⟩ := id Cc
  induction n with
  | zero =>
    intro x1 x2 ls hl h
    exact absurd h (fun z => z)
  | succ n hih4 =>
    intro x1 x2 ls hl h
    have h : pX5_closePlaces_4s σ (pX5_closePlaces_4 σ Q n) Q x1 x2 := h
    unfold pX5_closePlaces_4s at h
    refine lv_iload_n hx hb dX5_closePlaces_4 rfl (lv_at hl 2 rfl) ?_
    refine lv_aload_n hx hb dX5_closePlaces_5 rfl (lv_at hl 0 rfl) ?_
    refine gMo_0 Cc hPt (tw_761 hts) dX5_closePlaces_6 ?_
    refine lv_iconst (v := 1) hx hb dX5_closePlaces_9 (by decide) ?_
    refine lMo_0 Cc hPt h.1 dX5_closePlaces_10 ?_
    have h := h.2
    refine lv_icmp_ge (tgt := 59) hx hb dX5_closePlaces_11 (by decide) (fun c11 => ?_) (fun c11 => ?_)
    · have h := h.1 c11
      refine lv_iload_n hx hb dX5_closePlaces_59 rfl (lv_at hl 1 rfl) ?_
      exact W.iret (v := x1) hx hb hr (fun t ht _ => RQ.mk h ht) (fun _ h9 => by cases h9) dX5_closePlaces_60 (hlocks := hlk)
    · have h := h.2 c11
      refine lv_iload_n hx hb dX5_closePlaces_14 rfl (lv_at hl 1 rfl) ?_
      refine lv_aload_n hx hb dX5_closePlaces_15 rfl (lv_at hl 0 rfl) ?_
      refine lv_aload_n hx hb dX5_closePlaces_16 rfl (lv_at hl 0 rfl) ?_
      refine gMo_0 Cc hPt (tw_761 hts) dX5_closePlaces_17 ?_
      refine lv_bipush (v := 59) hx hb dX5_closePlaces_20 (by decide) ?_
      refine lv_iload_n hx hb dX5_closePlaces_22 rfl (lv_at hl 2 rfl) ?_
      refine lv_iadd hx hb dX5_closePlaces_23 ?_
      refine lv_iconst (v := 1) hx hb dX5_closePlaces_24 (by decide) ?_
      refine lv_isub hx hb dX5_closePlaces_25 ?_
      refine lMo_0 Cc hPt h.1 dX5_closePlaces_26 ?_
      have h := h.2
      refine lv_aload_n hx hb dX5_closePlaces_27 rfl (lv_at hl 0 rfl) ?_
      refine gMo_0 Cc hPt (tw_761 hts) dX5_closePlaces_28 ?_
      refine lv_bipush (v := 59) hx hb dX5_closePlaces_31 (by decide) ?_
      refine lv_iload_n hx hb dX5_closePlaces_33 rfl (lv_at hl 2 rfl) ?_
      refine lv_iadd hx hb dX5_closePlaces_34 ?_
      refine lMo_0 Cc hPt h.1 dX5_closePlaces_35 ?_
      have h := h.2
      refine kR (kV Cc (mX5_gapOf l D κ τ a h) (qX5_gapOf hts (tw_908 hts) ⟨(Nat.le_of_ble_eq_true rfl), (Nat.le_of_ble_eq_true rfl)⟩) (va_recv hE.1 hPt (ci := 5) (q0 := 0) rfl rfl) (rest := [.int x1]) hPt rfl hl.1 rfl (Nat.le_of_ble_eq_true rfl) dX5_closePlaces_36 ⟨Nat.zero_le _, Nat.zero_le _⟩) (fun r36 h => ?_)
      refine lv_if_ne (tgt := 50) hx hb dX5_closePlaces_39 (by decide) (fun c39 => ?_) (fun c39 => ?_)
      · have h := h.1 c39
        refine lv_iconst (v := 0) hx hb dX5_closePlaces_50 (by decide) ?_
        exact bX5_closePlaces_51 Cc hPt hih4 x2 0 x1  _ (lv_sub hl [0, 2] rfl) h
      · have h := h.2 c39
        refine lv_iconst (v := 1) hx hb dX5_closePlaces_42 (by decide) ?_
        refine lv_iload_n hx hb dX5_closePlaces_43 rfl (lv_at hl 2 rfl) ?_
        refine lv_iconst (v := 1) hx hb dX5_closePlaces_44 (by decide) ?_
        refine lv_isub hx hb dX5_closePlaces_45 ?_
        refine lv_ishl hx hb dX5_closePlaces_46 ?_
        refine lv_goto (tgt := 51) hx hb dX5_closePlaces_47 (by decide) ?_
        exact bX5_closePlaces_51 Cc hPt hih4 x2 (1 <<< ((x2 - 1) &&& 31)) x1  _ (lv_sub hl [0, 2] rfl) h
set_option maxHeartbeats 4000000 in
set_option maxRecDepth 100000 in
theorem mX5_closePlaces (l : Launch) (D : va_G) (κ : Nat → ClassId) (τ : Nat → Nat) (a : Nat → Nat) {σ : Mx}  {Q : Int32 → Prop}  (h : pX5_closePlaces σ  Q) : Met l yX5_closePlaces (wz yX5_closePlaces cX5_closePlaces 3 (some .int)) rX5_closePlaces (va_Pc [.ref (a 0)] (PE D κ (fun H => va_P D classes (wMo κ τ a σ) H))) (RQ Q) 0 0 (fun _ => False) := by
  refine Met_of l (own := RX5) (by decide) rfl (Nat.le_of_ble_eq_true rfl) (fun p e s m below meth c Cc hPP ls hl => ?_)
  obtain ⟨hx, hb, hml, hown, hts, hr, hlk, hE⟩ := id Cc
  have hl : lv_has ls 3 [(0, .ref (a 0))] := hl
  have hPt := hPP
  unfold pX5_closePlaces at h
  refine lv_iconst (v := 0) hx hb dX5_closePlaces_0 (by decide) ?_
  refine lv_istore_n (lv' := [(1, .int 0), (0, .ref (a 0))]) hx hb dX5_closePlaces_1 rfl hl (by decide) rfl (fun ls hl => ?_)
  refine lv_iconst (v := 1) hx hb dX5_closePlaces_2 (by decide) ?_
  refine lv_istore_n (lv' := [(2, .int 1), (1, .int 0), (0, .ref (a 0))]) hx hb dX5_closePlaces_3 rfl hl (by decide) rfl (fun ls hl => ?_)
  obtain ⟨n, h⟩ := h
  exact bX5_closePlaces_4 Cc hPt n 0 1  _ (lv_sub hl [2, 1, 0] rfl) h
theorem qX5_closePlaces {R : Room} {s : State} {args : Array Value} {own : String} {idx : Nat} (hts : ∀ w ∈ gG, w.before args s = true) (hl : (Cond.methodLink own idx yX5_closePlaces).before args s = true) (hR : rX5_closePlaces.frames + 1 ≤ R.frames ∧ 8 + (3 + 11) + rX5_closePlaces.locals ≤ R.locals) : CallW R s args own RX5 idx yX5_closePlaces cX5_closePlaces 3 (some .int) (wz yX5_closePlaces cX5_closePlaces 3 (some .int)) rX5_closePlaces 0 0 0 := ⟨kw 0 hts mw_967 rfl rfl (tw_75 hts) hl (by decide +kernel) hR, tw_966 hts, tw_40 hts⟩
abbrev rX5_grantedOnes : Room := { frames := 3, cells := 0, slots := 0, locals := 65 }
def pX5_grantedOnes_30 (σ : Mx) (ih4 : Int32 → Int32 → Prop) (Q : Int32 → Prop) (x2 : Int32) (y0 : Int32) (y1 : Int32) : Prop := ∀ v31 : Int32, v31 = (y1 ||| y0) → (ih4 v31 (x2 + 1))
def pX5_grantedOnes_4s (σ : Mx) (ih4 : Int32 → Int32 → Prop) (Q : Int32 → Prop) (x1 : Int32) (x2 : Int32) : Prop := vp_in 1 67 ∧ (((σ 0 (1 : Int32).toNatClampNeg) ≤ x2 → (Q x1)) ∧ (¬ (σ 0 (1 : Int32).toNatClampNeg) ≤ x2 → (pX5_isGranted σ x2 (fun r17 => ((r17 = 0 → (pX5_grantedOnes_30 σ ih4 Q x2 0 x1)) ∧ (¬ r17 = 0 → (pX5_grantedOnes_30 σ ih4 Q x2 (1 <<< (x2 &&& 31)) x1)))))))
noncomputable def pX5_grantedOnes_4 (σ : Mx) (Q : Int32 → Prop) (n : Nat) : Int32 → Int32 → Prop := Nat.rec (motive := fun _ => Int32 → Int32 → Prop) (fun _ _ => False) (fun _ ih => pX5_grantedOnes_4s σ ih Q) n
def pX5_grantedOnes (σ : Mx)  (Q : Int32 → Prop) : Prop := ∃ n, pX5_grantedOnes_4 σ Q n 0 0
set_option maxHeartbeats 4000000 in
set_option maxRecDepth 100000 in
theorem bX5_grantedOnes_30 {p : Program} {l : Launch} {e : Env} {s : State} {m : MethodId} {args : Array Value} {below : List Frame} {meth : Method} {c : Code} {D : va_G} {κ : Nat → ClassId} {τ : Nat → Nat} {a : Nat → Nat} {σ : Mx} {ih4 : Int32 → Int32 → Prop} {Q : Int32 → Prop} (Cc : Cx D κ RX5 cX5_grantedOnes 3 (some .int) p s m args meth c)  (hPt : va_P D classes (wMo κ τ a σ) s.heap) (hih4 : ∀ (x1 : Int32) (x2 : Int32) (ls : Array Slot) (hl : lv_has ls 3 [(0, .ref (a 0)), (1, .int x1), (2, .int x2)]) (h : ih4 x1 x2), W p l e rX5_grantedOnes s m args below meth c s.heap [] 0 0 (MQ below (RQ Q) args s 0 0 (fun _ => False)) (F0 m 4 ls [])) : ∀ (x2 : Int32) (y0 : Int32) (y1 : Int32) (ls : Array Slot) (hl : lv_has ls 3 [(0, .ref (a 0)), (2, .int x2)]) (h : pX5_grantedOnes_30 σ ih4 Q x2 y0 y1), W p l e rX5_grantedOnes s m args below meth c s.heap [] 0 0 (MQ below (RQ Q) args s 0 0 (fun _ => False)) (F0 m 30 ls [.int y0, .int y1]) := by
  obtain ⟨hx, hb, hml, hown, hts, hr, hlk, hE⟩ := id Cc
  intro x2 y0 y1 ls hl h
  unfold pX5_grantedOnes_30 at h
  refine lv_ior hx hb dX5_grantedOnes_30 ?_
  refine lv_topi (fun v31 e31 => ?_)
  have h := h v31 e31
  refine lv_istore_n (lv' := [(1, .int v31), (0, .ref (a 0)), (2, .int x2)]) hx hb dX5_grantedOnes_31 rfl hl (by decide) rfl (fun ls hl => ?_)
  refine lv_iinc (v := (x2 + 1)) (lv' := [(2, .int (x2 + 1)), (1, .int v31), (0, .ref (a 0))]) hx hb dX5_grantedOnes_32 hl (k := 2) rfl rfl (by decide) rfl (fun ls hl => ?_)
  refine lv_goto (tgt := 4) hx hb dX5_grantedOnes_35 (by decide) ?_
  exact hih4 v31 (x2 + 1)  _ (lv_sub hl [2, 1, 0] rfl) h
set_option maxHeartbeats 4000000 in
set_option maxRecDepth 100000 in
theorem bX5_grantedOnes_4 {p : Program} {l : Launch} {e : Env} {s : State} {m : MethodId} {args : Array Value} {below : List Frame} {meth : Method} {c : Code} {D : va_G} {κ : Nat → ClassId} {τ : Nat → Nat} {a : Nat → Nat} {σ : Mx}  {Q : Int32 → Prop} (Cc : Cx D κ RX5 cX5_grantedOnes 3 (some .int) p s m args meth c)  (hPt : va_P D classes (wMo κ τ a σ) s.heap)  (n : Nat) : ∀ (x1 : Int32) (x2 : Int32) (ls : Array Slot) (hl : lv_has ls 3 [(0, .ref (a 0)), (1, .int x1), (2, .int x2)]) (h : pX5_grantedOnes_4 σ Q n x1 x2), W p l e rX5_grantedOnes s m args below meth c s.heap [] 0 0 (MQ below (RQ Q) args s 0 0 (fun _ => False)) (F0 m 4 ls []) := by
  obtain ⟨hx, hb, hml, hown, hts, hr, hlk, hE⟩ := id Cc
  induction n with
  | zero =>
    intro x1 x2 ls hl h
    exact absurd h (fun z => z)
  | succ n hih4 =>
    intro x1 x2 ls hl h
    have h : pX5_grantedOnes_4s σ (pX5_grantedOnes_4 σ Q n) Q x1 x2 := h
    unfold pX5_grantedOnes_4s at h
    refine lv_iload_n hx hb dX5_grantedOnes_4 rfl (lv_at hl 2 rfl) ?_
    refine lv_aload_n hx hb dX5_grantedOnes_5 rfl (lv_at hl 0 rfl) ?_
    refine gMo_0 Cc hPt (tw_761 hts) dX5_grantedOnes_6 ?_
    refine lv_iconst (v := 1) hx hb dX5_grantedOnes_9 (by decide) ?_
    refine lMo_0 Cc hPt h.1 dX5_grantedOnes_10 ?_
    have h := h.2
    refine lv_icmp_ge (tgt := 38) hx hb dX5_grantedOnes_11 (by decide) (fun c11 => ?_) (fun c11 => ?_)
    · have h := h.1 c11
      refine lv_iload_n hx hb dX5_grantedOnes_38 rfl (lv_at hl 1 rfl) ?_
      exact W.iret (v := x1) hx hb hr (fun t ht _ => RQ.mk h ht) (fun _ h9 => by cases h9) dX5_grantedOnes_39 (hlocks := hlk)
    · have h := h.2 c11
      refine lv_iload_n hx hb dX5_grantedOnes_14 rfl (lv_at hl 1 rfl) ?_
      refine lv_aload_n hx hb dX5_grantedOnes_15 rfl (lv_at hl 0 rfl) ?_
      refine lv_iload_n hx hb dX5_grantedOnes_16 rfl (lv_at hl 2 rfl) ?_
      refine kR (kV Cc (mX5_isGranted l D κ τ a h) (qX5_isGranted hts (tw_972 hts) ⟨(Nat.le_of_ble_eq_true rfl), (Nat.le_of_ble_eq_true rfl)⟩) (va_recv hE.1 hPt (ci := 5) (q0 := 0) rfl rfl) (rest := [.int x1]) hPt rfl hl.1 rfl (Nat.le_of_ble_eq_true rfl) dX5_grantedOnes_17 ⟨Nat.zero_le _, Nat.zero_le _⟩) (fun r17 h => ?_)
      refine lv_if_eq (tgt := 29) hx hb dX5_grantedOnes_20 (by decide) (fun c20 => ?_) (fun c20 => ?_)
      · have h := h.1 c20
        refine lv_iconst (v := 0) hx hb dX5_grantedOnes_29 (by decide) ?_
        exact bX5_grantedOnes_30 Cc hPt hih4 x2 0 x1  _ (lv_sub hl [0, 2] rfl) h
      · have h := h.2 c20
        refine lv_iconst (v := 1) hx hb dX5_grantedOnes_23 (by decide) ?_
        refine lv_iload_n hx hb dX5_grantedOnes_24 rfl (lv_at hl 2 rfl) ?_
        refine lv_ishl hx hb dX5_grantedOnes_25 ?_
        refine lv_goto (tgt := 30) hx hb dX5_grantedOnes_26 (by decide) ?_
        exact bX5_grantedOnes_30 Cc hPt hih4 x2 (1 <<< (x2 &&& 31)) x1  _ (lv_sub hl [0, 2] rfl) h
set_option maxHeartbeats 4000000 in
set_option maxRecDepth 100000 in
theorem mX5_grantedOnes (l : Launch) (D : va_G) (κ : Nat → ClassId) (τ : Nat → Nat) (a : Nat → Nat) {σ : Mx}  {Q : Int32 → Prop}  (h : pX5_grantedOnes σ  Q) : Met l yX5_grantedOnes (wz yX5_grantedOnes cX5_grantedOnes 3 (some .int)) rX5_grantedOnes (va_Pc [.ref (a 0)] (PE D κ (fun H => va_P D classes (wMo κ τ a σ) H))) (RQ Q) 0 0 (fun _ => False) := by
  refine Met_of l (own := RX5) (by decide) rfl (Nat.le_of_ble_eq_true rfl) (fun p e s m below meth c Cc hPP ls hl => ?_)
  obtain ⟨hx, hb, hml, hown, hts, hr, hlk, hE⟩ := id Cc
  have hl : lv_has ls 3 [(0, .ref (a 0))] := hl
  have hPt := hPP
  unfold pX5_grantedOnes at h
  refine lv_iconst (v := 0) hx hb dX5_grantedOnes_0 (by decide) ?_
  refine lv_istore_n (lv' := [(1, .int 0), (0, .ref (a 0))]) hx hb dX5_grantedOnes_1 rfl hl (by decide) rfl (fun ls hl => ?_)
  refine lv_iconst (v := 0) hx hb dX5_grantedOnes_2 (by decide) ?_
  refine lv_istore_n (lv' := [(2, .int 0), (1, .int 0), (0, .ref (a 0))]) hx hb dX5_grantedOnes_3 rfl hl (by decide) rfl (fun ls hl => ?_)
  obtain ⟨n, h⟩ := h
  exact bX5_grantedOnes_4 Cc hPt n 0 0  _ (lv_sub hl [2, 1, 0] rfl) h
theorem qX5_grantedOnes {R : Room} {s : State} {args : Array Value} {own : String} {idx : Nat} (hts : ∀ w ∈ gG, w.before args s = true) (hl : (Cond.methodLink own idx yX5_grantedOnes).before args s = true) (hR : rX5_grantedOnes.frames + 1 ≤ R.frames ∧ 8 + (3 + 11) + rX5_grantedOnes.locals ≤ R.locals) : CallW R s args own RX5 idx yX5_grantedOnes cX5_grantedOnes 3 (some .int) (wz yX5_grantedOnes cX5_grantedOnes 3 (some .int)) rX5_grantedOnes 0 0 0 := ⟨kw 0 hts mw_971 rfl rfl (tw_75 hts) hl (by decide +kernel) hR, tw_970 hts, tw_41 hts⟩
abbrev rX5_widestGap : Room := { frames := 4, cells := 0, slots := 0, locals := 90 }
def pX5_widestGap_4s (σ : Mx) (ih4 : Int32 → Int32 → Prop) (Q : Int32 → Prop) (x1 : Int32) (x2 : Int32) : Prop := vp_in 1 67 ∧ (((σ 0 (1 : Int32).toNatClampNeg) ≤ x2 → (Q x1)) ∧ (¬ (σ 0 (1 : Int32).toNatClampNeg) ≤ x2 → (vp_in ((59 + x2) - 1) 67 ∧ (vp_in (59 + x2) 67 ∧ (pX5_gapOf σ (σ 0 ((59 + x2) - 1).toNatClampNeg) (σ 0 (59 + x2).toNatClampNeg) (fun r36 => (∀ v39 : Int32, v39 = (if x1 < r36 then r36 else x1) → (ih4 v39 (x2 + 1)))))))))
noncomputable def pX5_widestGap_4 (σ : Mx) (Q : Int32 → Prop) (n : Nat) : Int32 → Int32 → Prop := Nat.rec (motive := fun _ => Int32 → Int32 → Prop) (fun _ _ => False) (fun _ ih => pX5_widestGap_4s σ ih Q) n
def pX5_widestGap (σ : Mx)  (Q : Int32 → Prop) : Prop := ∃ n, pX5_widestGap_4 σ Q n 0 1
set_option maxHeartbeats 4000000 in
set_option maxRecDepth 100000 in
theorem bX5_widestGap_4 {p : Program} {l : Launch} {e : Env} {s : State} {m : MethodId} {args : Array Value} {below : List Frame} {meth : Method} {c : Code} {D : va_G} {κ : Nat → ClassId} {τ : Nat → Nat} {a : Nat → Nat} {σ : Mx}  {Q : Int32 → Prop} (Cc : Cx D κ RX5 cX5_widestGap 3 (some .int) p s m args meth c)  (hPt : va_P D classes (wMo κ τ a σ) s.heap)  (n : Nat) : ∀ (x1 : Int32) (x2 : Int32) (ls : Array Slot) (hl : lv_has ls 3 [(0, .ref (a 0)), (1, .int x1), (2, .int x2)]) (h : pX5_widestGap_4 σ Q n x1 x2), W p l e rX5_widestGap s m args below meth c s.heap [] 0 0 (MQ below (RQ Q) args s 0 0 (fun _ => False)) (F0 m 4 ls []) := by
  obtain ⟨hx, hb, hml, hown, hts, hr, hlk, hE⟩ := id Cc
  induction n with
  | zero =>
    intro x1 x2 ls hl h
    exact absurd h (fun z => z)
  | succ n hih4 =>
    intro x1 x2 ls hl h
    have h : pX5_widestGap_4s σ (pX5_widestGap_4 σ Q n) Q x1 x2 := h
    unfold pX5_widestGap_4s at h
    refine lv_iload_n hx hb dX5_widestGap_4 rfl (lv_at hl 2 rfl) ?_
    refine lv_aload_n hx hb dX5_widestGap_5 rfl (lv_at hl 0 rfl) ?_
    refine gMo_0 Cc hPt (tw_761 hts) dX5_widestGap_6 ?_
    refine lv_iconst (v := 1) hx hb dX5_widestGap_9 (by decide) ?_
    refine lMo_0 Cc hPt h.1 dX5_widestGap_10 ?_
    have h := h.2
    refine lv_icmp_ge (tgt := 49) hx hb dX5_widestGap_11 (by decide) (fun c11 => ?_) (fun c11 => ?_)
    · have h := h.1 c11
      refine lv_iload_n hx hb dX5_widestGap_49 rfl (lv_at hl 1 rfl) ?_
      exact W.iret (v := x1) hx hb hr (fun t ht _ => RQ.mk h ht) (fun _ h9 => by cases h9) dX5_widestGap_50 (hlocks := hlk)
    · have h := h.2 c11
      refine lv_iload_n hx hb dX5_widestGap_14 rfl (lv_at hl 1 rfl) ?_
      refine lv_aload_n hx hb dX5_widestGap_15 rfl (lv_at hl 0 rfl) ?_
      refine lv_aload_n hx hb dX5_widestGap_16 rfl (lv_at hl 0 rfl) ?_
      refine gMo_0 Cc hPt (tw_761 hts) dX5_widestGap_17 ?_
      refine lv_bipush (v := 59) hx hb dX5_widestGap_20 (by decide) ?_
      refine lv_iload_n hx hb dX5_widestGap_22 rfl (lv_at hl 2 rfl) ?_
      refine lv_iadd hx hb dX5_widestGap_23 ?_
      refine lv_iconst (v := 1) hx hb dX5_widestGap_24 (by decide) ?_
      refine lv_isub hx hb dX5_widestGap_25 ?_
      refine lMo_0 Cc hPt h.1 dX5_widestGap_26 ?_
      have h := h.2
      refine lv_aload_n hx hb dX5_widestGap_27 rfl (lv_at hl 0 rfl) ?_
      refine gMo_0 Cc hPt (tw_761 hts) dX5_widestGap_28 ?_
      refine lv_bipush (v := 59) hx hb dX5_widestGap_31 (by decide) ?_
      refine lv_iload_n hx hb dX5_widestGap_33 rfl (lv_at hl 2 rfl) ?_
      refine lv_iadd hx hb dX5_widestGap_34 ?_
      refine lMo_0 Cc hPt h.1 dX5_widestGap_35 ?_
      have h := h.2
      refine kR (kV Cc (mX5_gapOf l D κ τ a h) (qX5_gapOf hts (tw_908 hts) ⟨(Nat.le_of_ble_eq_true rfl), (Nat.le_of_ble_eq_true rfl)⟩) (va_recv hE.1 hPt (ci := 5) (q0 := 0) rfl rfl) (rest := [.int x1]) hPt rfl hl.1 rfl (Nat.le_of_ble_eq_true rfl) dX5_widestGap_36 ⟨Nat.zero_le _, Nat.zero_le _⟩) (fun r36 h => ?_)
      refine va_mmax hx hb (hml.trans hl.1.symm) hown (tw_980 hts) (tw_391 hts) (tw_76 hts) (tw_392 hts) (Nat.le_of_ble_eq_true rfl) (Nat.le_of_ble_eq_true rfl) (Nat.zero_le _) (Nat.zero_le _) dX5_widestGap_39 ?_
      refine lv_topi (fun v39 e39 => ?_)
      have h := h v39 e39
      refine lv_istore_n (lv' := [(1, .int v39), (0, .ref (a 0)), (2, .int x2)]) hx hb dX5_widestGap_42 rfl hl (by decide) rfl (fun ls hl => ?_)
      refine lv_iinc (v := (x2 + 1)) (lv' := [(2, .int (x2 + 1)), (1, .int v39), (0, .ref (a 0))]) hx hb dX5_widestGap_43 hl (k := 2) rfl rfl (by decide) rfl (fun ls hl => ?_)
      refine lv_goto (tgt := 4) hx hb dX5_widestGap_46 (by decide) ?_
      exact hih4 v39 (x2 + 1)  _ (lv_sub hl [2, 1, 0] rfl) h
set_option maxHeartbeats 4000000 in
set_option maxRecDepth 100000 in
theorem mX5_widestGap (l : Launch) (D : va_G) (κ : Nat → ClassId) (τ : Nat → Nat) (a : Nat → Nat) {σ : Mx}  {Q : Int32 → Prop}  (h : pX5_widestGap σ  Q) : Met l yX5_widestGap (wz yX5_widestGap cX5_widestGap 3 (some .int)) rX5_widestGap (va_Pc [.ref (a 0)] (PE D κ (fun H => va_P D classes (wMo κ τ a σ) H))) (RQ Q) 0 0 (fun _ => False) := by
  refine Met_of l (own := RX5) (by decide) rfl (Nat.le_of_ble_eq_true rfl) (fun p e s m below meth c Cc hPP ls hl => ?_)
  obtain ⟨hx, hb, hml, hown, hts, hr, hlk, hE⟩ := id Cc
  have hl : lv_has ls 3 [(0, .ref (a 0))] := hl
  have hPt := hPP
  unfold pX5_widestGap at h
  refine lv_iconst (v := 0) hx hb dX5_widestGap_0 (by decide) ?_
  refine lv_istore_n (lv' := [(1, .int 0), (0, .ref (a 0))]) hx hb dX5_widestGap_1 rfl hl (by decide) rfl (fun ls hl => ?_)
  refine lv_iconst (v := 1) hx hb dX5_widestGap_2 (by decide) ?_
  refine lv_istore_n (lv' := [(2, .int 1), (1, .int 0), (0, .ref (a 0))]) hx hb dX5_widestGap_3 rfl hl (by decide) rfl (fun ls hl => ?_)
  obtain ⟨n, h⟩ := h
  exact bX5_widestGap_4 Cc hPt n 0 1  _ (lv_sub hl [2, 1, 0] rfl) h
theorem qX5_widestGap {R : Room} {s : State} {args : Array Value} {own : String} {idx : Nat} (hts : ∀ w ∈ gG, w.before args s = true) (hl : (Cond.methodLink own idx yX5_widestGap).before args s = true) (hR : rX5_widestGap.frames + 1 ≤ R.frames ∧ 8 + (3 + 11) + rX5_widestGap.locals ≤ R.locals) : CallW R s args own RX5 idx yX5_widestGap cX5_widestGap 3 (some .int) (wz yX5_widestGap cX5_widestGap 3 (some .int)) rX5_widestGap 0 0 0 := ⟨kw 0 hts mw_979 rfl rfl (tw_75 hts) hl (by decide +kernel) hR, tw_978 hts, tw_43 hts⟩
abbrev rX5_turnedOnes : Room := { frames := 2, cells := 0, slots := 0, locals := 43 }
def pX5_turnedOnes_4s (σ : Mx) (ih4 : Int32 → Int32 → Prop) (Q : Int32 → Prop) (x1 : Int32) (x2 : Int32) : Prop := vp_in 1 67 ∧ (((σ 0 (1 : Int32).toNatClampNeg) ≤ x2 → (Q x1)) ∧ (¬ (σ 0 (1 : Int32).toNatClampNeg) ≤ x2 → (pX5_pieceIs σ x2 4 (fun r18 => (∀ v24 : Int32, v24 = (x1 ||| (r18 <<< (x2 &&& 31))) → (ih4 v24 (x2 + 1)))))))
noncomputable def pX5_turnedOnes_4 (σ : Mx) (Q : Int32 → Prop) (n : Nat) : Int32 → Int32 → Prop := Nat.rec (motive := fun _ => Int32 → Int32 → Prop) (fun _ _ => False) (fun _ ih => pX5_turnedOnes_4s σ ih Q) n
def pX5_turnedOnes (σ : Mx)  (Q : Int32 → Prop) : Prop := ∃ n, pX5_turnedOnes_4 σ Q n 0 0
set_option maxHeartbeats 4000000 in
set_option maxRecDepth 100000 in
theorem bX5_turnedOnes_4 {p : Program} {l : Launch} {e : Env} {s : State} {m : MethodId} {args : Array Value} {below : List Frame} {meth : Method} {c : Code} {D : va_G} {κ : Nat → ClassId} {τ : Nat → Nat} {a : Nat → Nat} {σ : Mx}  {Q : Int32 → Prop} (Cc : Cx D κ RX5 cX5_turnedOnes 3 (some .int) p s m args meth c)  (hPt : va_P D classes (wMo κ τ a σ) s.heap)  (n : Nat) : ∀ (x1 : Int32) (x2 : Int32) (ls : Array Slot) (hl : lv_has ls 3 [(0, .ref (a 0)), (1, .int x1), (2, .int x2)]) (h : pX5_turnedOnes_4 σ Q n x1 x2), W p l e rX5_turnedOnes s m args below meth c s.heap [] 0 0 (MQ below (RQ Q) args s 0 0 (fun _ => False)) (F0 m 4 ls []) := by
  obtain ⟨hx, hb, hml, hown, hts, hr, hlk, hE⟩ := id Cc
  induction n with
  | zero =>
    intro x1 x2 ls hl h
    exact absurd h (fun z => z)
  | succ n hih4 =>
    intro x1 x2 ls hl h
    have h : pX5_turnedOnes_4s σ (pX5_turnedOnes_4 σ Q n) Q x1 x2 := h
    unfold pX5_turnedOnes_4s at h
    refine lv_iload_n hx hb dX5_turnedOnes_4 rfl (lv_at hl 2 rfl) ?_
    refine lv_aload_n hx hb dX5_turnedOnes_5 rfl (lv_at hl 0 rfl) ?_
    refine gMo_0 Cc hPt (tw_761 hts) dX5_turnedOnes_6 ?_
    refine lv_iconst (v := 1) hx hb dX5_turnedOnes_9 (by decide) ?_
    refine lMo_0 Cc hPt h.1 dX5_turnedOnes_10 ?_
    have h := h.2
    refine lv_icmp_ge (tgt := 31) hx hb dX5_turnedOnes_11 (by decide) (fun c11 => ?_) (fun c11 => ?_)
    · have h := h.1 c11
      refine lv_iload_n hx hb dX5_turnedOnes_31 rfl (lv_at hl 1 rfl) ?_
      exact W.iret (v := x1) hx hb hr (fun t ht _ => RQ.mk h ht) (fun _ h9 => by cases h9) dX5_turnedOnes_32 (hlocks := hlk)
    · have h := h.2 c11
      refine lv_iload_n hx hb dX5_turnedOnes_14 rfl (lv_at hl 1 rfl) ?_
      refine lv_aload_n hx hb dX5_turnedOnes_15 rfl (lv_at hl 0 rfl) ?_
      refine lv_iload_n hx hb dX5_turnedOnes_16 rfl (lv_at hl 2 rfl) ?_
      refine lv_iconst (v := 4) hx hb dX5_turnedOnes_17 (by decide) ?_
      refine kR (kV Cc (mX5_pieceIs l D κ τ a h) (qX5_pieceIs hts (tw_889 hts) ⟨(Nat.le_of_ble_eq_true rfl), (Nat.le_of_ble_eq_true rfl)⟩) (va_recv hE.1 hPt (ci := 5) (q0 := 0) rfl rfl) (rest := [.int x1]) hPt rfl hl.1 rfl (Nat.le_of_ble_eq_true rfl) dX5_turnedOnes_18 ⟨Nat.zero_le _, Nat.zero_le _⟩) (fun r18 h => ?_)
      refine lv_iload_n hx hb dX5_turnedOnes_21 rfl (lv_at hl 2 rfl) ?_
      refine lv_ishl hx hb dX5_turnedOnes_22 ?_
      refine lv_ior hx hb dX5_turnedOnes_23 ?_
      refine lv_topi (fun v24 e24 => ?_)
      have h := h v24 e24
      refine lv_istore_n (lv' := [(1, .int v24), (0, .ref (a 0)), (2, .int x2)]) hx hb dX5_turnedOnes_24 rfl hl (by decide) rfl (fun ls hl => ?_)
      refine lv_iinc (v := (x2 + 1)) (lv' := [(2, .int (x2 + 1)), (1, .int v24), (0, .ref (a 0))]) hx hb dX5_turnedOnes_25 hl (k := 2) rfl rfl (by decide) rfl (fun ls hl => ?_)
      refine lv_goto (tgt := 4) hx hb dX5_turnedOnes_28 (by decide) ?_
      exact hih4 v24 (x2 + 1)  _ (lv_sub hl [2, 1, 0] rfl) h
set_option maxHeartbeats 4000000 in
set_option maxRecDepth 100000 in
theorem mX5_turnedOnes (l : Launch) (D : va_G) (κ : Nat → ClassId) (τ : Nat → Nat) (a : Nat → Nat) {σ : Mx}  {Q : Int32 → Prop}  (h : pX5_turnedOnes σ  Q) : Met l yX5_turnedOnes (wz yX5_turnedOnes cX5_turnedOnes 3 (some .int)) rX5_turnedOnes (va_Pc [.ref (a 0)] (PE D κ (fun H => va_P D classes (wMo κ τ a σ) H))) (RQ Q) 0 0 (fun _ => False) := by
  refine Met_of l (own := RX5) (by decide) rfl (Nat.le_of_ble_eq_true rfl) (fun p e s m below meth c Cc hPP ls hl => ?_)
  obtain ⟨hx, hb, hml, hown, hts, hr, hlk, hE⟩ := id Cc
  have hl : lv_has ls 3 [(0, .ref (a 0))] := hl
  have hPt := hPP
  unfold pX5_turnedOnes at h
  refine lv_iconst (v := 0) hx hb dX5_turnedOnes_0 (by decide) ?_
  refine lv_istore_n (lv' := [(1, .int 0), (0, .ref (a 0))]) hx hb dX5_turnedOnes_1 rfl hl (by decide) rfl (fun ls hl => ?_)
  refine lv_iconst (v := 0) hx hb dX5_turnedOnes_2 (by decide) ?_
  refine lv_istore_n (lv' := [(2, .int 0), (1, .int 0), (0, .ref (a 0))]) hx hb dX5_turnedOnes_3 rfl hl (by decide) rfl (fun ls hl => ?_)
  obtain ⟨n, h⟩ := h
  exact bX5_turnedOnes_4 Cc hPt n 0 0  _ (lv_sub hl [2, 1, 0] rfl) h
theorem qX5_turnedOnes {R : Room} {s : State} {args : Array Value} {own : String} {idx : Nat} (hts : ∀ w ∈ gG, w.before args s = true) (hl : (Cond.methodLink own idx yX5_turnedOnes).before args s = true) (hR : rX5_turnedOnes.frames + 1 ≤ R.frames ∧ 8 + (3 + 11) + rX5_turnedOnes.locals ≤ R.locals) : CallW R s args own RX5 idx yX5_turnedOnes cX5_turnedOnes 3 (some .int) (wz yX5_turnedOnes cX5_turnedOnes 3 (some .int)) rX5_turnedOnes 0 0 0 := ⟨kw 0 hts mw_984 rfl rfl (tw_75 hts) hl (by decide +kernel) hR, tw_983 hts, tw_44 hts⟩
abbrev rX5_leastRest : Room := { frames := 4, cells := 0, slots := 0, locals := 90 }
def pX5_leastRest_74 (σ : Mx) (ih26 : Int32 → Int32 → Int32 → Int32 → Prop) (Q : Int32 → Prop) (x2 : Int32) (x3 : Int32) (x4 : Int32) (x5 : Int32) : Prop := ih26 x2 x3 x4 (x5 + 1)
def pX5_leastRest_26s (σ : Mx) (ih26 : Int32 → Int32 → Int32 → Int32 → Prop) (Q : Int32 → Prop) (x2 : Int32) (x3 : Int32) (x4 : Int32) (x5 : Int32) : Prop := vp_in 1 67 ∧ (((σ 0 (1 : Int32).toNatClampNeg) ≤ x5 → (Q x4)) ∧ (¬ (σ 0 (1 : Int32).toNatClampNeg) ≤ x5 → ((¬ ((x3 >>> (x5 &&& 31)) &&& 1) = 1 → (pX5_leastRest_74 σ ih26 Q x2 x3 x4 x5)) ∧ (((x3 >>> (x5 &&& 31)) &&& 1) = 1 → (pX5_gapOf σ x2 x5 (fun r53 => (vp_in ((8 * x3) + x5) 2048 ∧ (∀ v69 : Int32, v69 = (if (r53 + (σ 5 ((8 * x3) + x5).toNatClampNeg)) < x4 then (r53 + (σ 5 ((8 * x3) + x5).toNatClampNeg)) else x4) → (pX5_leastRest_74 σ ih26 Q x2 x3 v69 x5)))))))))
noncomputable def pX5_leastRest_26 (σ : Mx) (Q : Int32 → Prop) (n : Nat) : Int32 → Int32 → Int32 → Int32 → Prop := Nat.rec (motive := fun _ => Int32 → Int32 → Int32 → Int32 → Prop) (fun _ _ _ _ => False) (fun _ ih => pX5_leastRest_26s σ ih Q) n
def pX5_leastRest (σ : Mx) (x1 : Int32) (x2 : Int32) (Q : Int32 → Prop) : Prop := ∀ v7 : Int32, v7 = (x1 &&& ((1 <<< (x2 &&& 31)) ^^^ (-1))) → ((¬ v7 = 0 → (∃ n, pX5_leastRest_26 σ Q n x2 v7 1000000 0)) ∧ (v7 = 0 → (pX5_edgeOf σ x2 1 (fun r15 => (Q r15)))))
set_option maxHeartbeats 4000000 in
set_option maxRecDepth 100000 in
theorem bX5_leastRest_74 {p : Program} {l : Launch} {e : Env} {s : State} {m : MethodId} {args : Array Value} {below : List Frame} {meth : Method} {c : Code} {D : va_G} {κ : Nat → ClassId} {τ : Nat → Nat} {a : Nat → Nat} {σ : Mx} {ih26 : Int32 → Int32 → Int32 → Int32 → Prop} {Q : Int32 → Prop} (Cc : Cx D κ RX5 cX5_leastRest 6 (some .int) p s m args meth c)  (hPt : va_P D classes (wMo κ τ a σ) s.heap) (hih26 : ∀ (x2 : Int32) (x3 : Int32) (x4 : Int32) (x5 : Int32) (ls : Array Slot) (hl : lv_has ls 6 [(0, .ref (a 0)), (2, .int x2), (3, .int x3), (4, .int x4), (5, .int x5)]) (h : ih26 x2 x3 x4 x5), W p l e rX5_leastRest s m args below meth c s.heap [] 0 0 (MQ below (RQ Q) args s 0 0 (fun _ => False)) (F0 m 26 ls [])) : ∀ (x2 : Int32) (x3 : Int32) (x4 : Int32) (x5 : Int32) (ls : Array Slot) (hl : lv_has ls 6 [(0, .ref (a 0)), (2, .int x2), (3, .int x3), (4, .int x4), (5, .int x5)]) (h : pX5_leastRest_74 σ ih26 Q x2 x3 x4 x5), W p l e rX5_leastRest s m args below meth c s.heap [] 0 0 (MQ below (RQ Q) args s 0 0 (fun _ => False)) (F0 m 74 ls []) := by
  obtain ⟨hx, hb, hml, hown, hts, hr, hlk, hE⟩ := id Cc
  intro x2 x3 x4 x5 ls hl h
  unfold pX5_leastRest_74 at h
  refine lv_iinc (v := (x5 + 1)) (lv' := [(5, .int (x5 + 1)), (0, .ref (a 0)), (2, .int x2), (3, .int x3), (4, .int x4)]) hx hb dX5_leastRest_74 hl (k := 4) rfl rfl (by decide) rfl (fun ls hl => ?_)
  refine lv_goto (tgt := 26) hx hb dX5_leastRest_77 (by decide) ?_
  exact hih26 x2 x3 x4 (x5 + 1)  _ (lv_sub hl [1, 2, 3, 4, 0] rfl) h
set_option maxHeartbeats 4000000 in
set_option maxRecDepth 100000 in
theorem bX5_leastRest_26 {p : Program} {l : Launch} {e : Env} {s : State} {m : MethodId} {args : Array Value} {below : List Frame} {meth : Method} {c : Code} {D : va_G} {κ : Nat → ClassId} {τ : Nat → Nat} {a : Nat → Nat} {σ : Mx}  {Q : Int32 → Prop} (Cc : Cx D κ RX5 cX5_leastRest 6 (some .int) p s m args meth c)  (hPt : va_P D classes (wMo κ τ a σ) s.heap)  (n : Nat) : ∀ (x2 : Int32) (x3 : Int32) (x4 : Int32) (x5 : Int32) (ls : Array Slot) (hl : lv_has ls 6 [(0, .ref (a 0)), (2, .int x2), (3, .int x3), (4, .int x4), (5, .int x5)]) (h : pX5_leastRest_26 σ Q n x2 x3 x4 x5), W p l e rX5_leastRest s m args below meth c s.heap [] 0 0 (MQ below (RQ Q) args s 0 0 (fun _ => False)) (F0 m 26 ls []) := by
  obtain ⟨hx, hb, hml, hown, hts, hr, hlk, hE⟩ := id Cc
  induction n with
  | zero =>
    intro x2 x3 x4 x5 ls hl h
    exact absurd h (fun z => z)
  | succ n hih26 =>
    intro x2 x3 x4 x5 ls hl h
    have h : pX5_leastRest_26s σ (pX5_leastRest_26 σ Q n) Q x2 x3 x4 x5 := h
    unfold pX5_leastRest_26s at h
    refine lv_iload hx hb dX5_leastRest_26 (lv_at hl 4 rfl) ?_
    refine lv_aload_n hx hb dX5_leastRest_28 rfl (lv_at hl 0 rfl) ?_
    refine gMo_0 Cc hPt (tw_761 hts) dX5_leastRest_29 ?_
    refine lv_iconst (v := 1) hx hb dX5_leastRest_32 (by decide) ?_
    refine lMo_0 Cc hPt h.1 dX5_leastRest_33 ?_
    have h := h.2
    refine lv_icmp_ge (tgt := 80) hx hb dX5_leastRest_34 (by decide) (fun c34 => ?_) (fun c34 => ?_)
    · have h := h.1 c34
      refine lv_iload hx hb dX5_leastRest_80 (lv_at hl 3 rfl) ?_
      exact W.iret (v := x4) hx hb hr (fun t ht _ => RQ.mk h ht) (fun _ h9 => by cases h9) dX5_leastRest_82 (hlocks := hlk)
    · have h := h.2 c34
      refine lv_iload_n hx hb dX5_leastRest_37 rfl (lv_at hl 2 rfl) ?_
      refine lv_iload hx hb dX5_leastRest_38 (lv_at hl 4 rfl) ?_
      refine lv_ishr hx hb dX5_leastRest_40 ?_
      refine lv_iconst (v := 1) hx hb dX5_leastRest_41 (by decide) ?_
      refine lv_iand hx hb dX5_leastRest_42 ?_
      refine lv_iconst (v := 1) hx hb dX5_leastRest_43 (by decide) ?_
      refine lv_icmp_ne (tgt := 74) hx hb dX5_leastRest_44 (by decide) (fun c44 => ?_) (fun c44 => ?_)
      · have h := h.1 c44
        exact bX5_leastRest_74 Cc hPt hih26 x2 x3 x4 x5  _ (lv_sub hl [0, 1, 2, 3, 4] rfl) h
      · have h := h.2 c44
        refine lv_iload hx hb dX5_leastRest_47 (lv_at hl 3 rfl) ?_
        refine lv_aload_n hx hb dX5_leastRest_49 rfl (lv_at hl 0 rfl) ?_
        refine lv_iload_n hx hb dX5_leastRest_50 rfl (lv_at hl 1 rfl) ?_
        refine lv_iload hx hb dX5_leastRest_51 (lv_at hl 4 rfl) ?_
        refine kR (kV Cc (mX5_gapOf l D κ τ a h) (qX5_gapOf hts (tw_908 hts) ⟨(Nat.le_of_ble_eq_true rfl), (Nat.le_of_ble_eq_true rfl)⟩) (va_recv hE.1 hPt (ci := 5) (q0 := 0) rfl rfl) (rest := [.int x4]) hPt rfl hl.1 rfl (Nat.le_of_ble_eq_true rfl) dX5_leastRest_53 ⟨Nat.zero_le _, Nat.zero_le _⟩) (fun r53 h => ?_)
        refine lv_aload_n hx hb dX5_leastRest_56 rfl (lv_at hl 0 rfl) ?_
        refine gMo_5 Cc hPt (tw_766 hts) dX5_leastRest_57 ?_
        refine lv_bipush (v := 8) hx hb dX5_leastRest_60 (by decide) ?_
        refine lv_iload_n hx hb dX5_leastRest_62 rfl (lv_at hl 2 rfl) ?_
        refine lv_imul hx hb dX5_leastRest_63 ?_
        refine lv_iload hx hb dX5_leastRest_64 (lv_at hl 4 rfl) ?_
        refine lv_iadd hx hb dX5_leastRest_66 ?_
        refine lMo_5 Cc hPt h.1 dX5_leastRest_67 ?_
        have h := h.2
        refine lv_iadd hx hb dX5_leastRest_68 ?_
        refine va_mmin hx hb (hml.trans hl.1.symm) hown (tw_959 hts) (tw_417 hts) (tw_76 hts) (tw_418 hts) (Nat.le_of_ble_eq_true rfl) (Nat.le_of_ble_eq_true rfl) (Nat.zero_le _) (Nat.zero_le _) dX5_leastRest_69 ?_
        refine lv_topi (fun v69 e69 => ?_)
        have h := h v69 e69
        refine lv_istore (lv' := [(4, .int v69), (0, .ref (a 0)), (2, .int x2), (3, .int x3), (5, .int x5)]) hx hb dX5_leastRest_72 hl (by decide) rfl (fun ls hl => ?_)
        exact bX5_leastRest_74 Cc hPt hih26 x2 x3 v69 x5  _ (lv_sub hl [1, 2, 3, 0, 4] rfl) h
set_option maxHeartbeats 4000000 in
set_option maxRecDepth 100000 in
theorem mX5_leastRest (l : Launch) (D : va_G) (κ : Nat → ClassId) (τ : Nat → Nat) (a : Nat → Nat) {σ : Mx} {x1 : Int32} {x2 : Int32} {Q : Int32 → Prop}  (h : pX5_leastRest σ x1 x2 Q) : Met l yX5_leastRest (wz yX5_leastRest cX5_leastRest 6 (some .int)) rX5_leastRest (va_Pc [.ref (a 0), .int x1, .int x2] (PE D κ (fun H => va_P D classes (wMo κ τ a σ) H))) (RQ Q) 0 0 (fun _ => False) := by
  refine Met_of l (own := RX5) (by decide) rfl (Nat.le_of_ble_eq_true rfl) (fun p e s m below meth c Cc hPP ls hl => ?_)
  obtain ⟨hx, hb, hml, hown, hts, hr, hlk, hE⟩ := id Cc
  have hl : lv_has ls 6 [(0, .ref (a 0)), (1, .int x1), (2, .int x2)] := hl
  have hPt := hPP
  unfold pX5_leastRest at h
  refine lv_iload_n hx hb dX5_leastRest_0 rfl (lv_at hl 1 rfl) ?_
  refine lv_iconst (v := 1) hx hb dX5_leastRest_1 (by decide) ?_
  refine lv_iload_n hx hb dX5_leastRest_2 rfl (lv_at hl 2 rfl) ?_
  refine lv_ishl hx hb dX5_leastRest_3 ?_
  refine lv_iconst (v := (-1)) hx hb dX5_leastRest_4 (by decide) ?_
  refine lv_ixor hx hb dX5_leastRest_5 ?_
  refine lv_iand hx hb dX5_leastRest_6 ?_
  refine lv_topi (fun v7 e7 => ?_)
  have h := h v7 e7
  refine lv_istore_n (lv' := [(3, .int v7), (0, .ref (a 0)), (1, .int x1), (2, .int x2)]) hx hb dX5_leastRest_7 rfl hl (by decide) rfl (fun ls hl => ?_)
  refine lv_iload_n hx hb dX5_leastRest_8 rfl (lv_at hl 0 rfl) ?_
  refine lv_if_ne (tgt := 19) hx hb dX5_leastRest_9 (by decide) (fun c9 => ?_) (fun c9 => ?_)
  · have h := h.1 c9
    refine lv_ldc (own := RX5) (v := 1000000) hx hb hown (tw_997 hts) dX5_leastRest_19 ?_
    refine lv_istore (lv' := [(4, .int 1000000), (3, .int v7), (0, .ref (a 0)), (1, .int x1), (2, .int x2)]) hx hb dX5_leastRest_21 hl (by decide) rfl (fun ls hl => ?_)
    refine lv_iconst (v := 0) hx hb dX5_leastRest_23 (by decide) ?_
    refine lv_istore (lv' := [(5, .int 0), (4, .int 1000000), (3, .int v7), (0, .ref (a 0)), (1, .int x1), (2, .int x2)]) hx hb dX5_leastRest_24 hl (by decide) rfl (fun ls hl => ?_)
    obtain ⟨n, h⟩ := h
    exact bX5_leastRest_26 Cc hPt n x2 v7 1000000 0  _ (lv_sub hl [3, 5, 2, 1, 0] rfl) h
  · have h := h.2 c9
    refine lv_aload_n hx hb dX5_leastRest_12 rfl (lv_at hl 1 rfl) ?_
    refine lv_iload_n hx hb dX5_leastRest_13 rfl (lv_at hl 3 rfl) ?_
    refine lv_iconst (v := 1) hx hb dX5_leastRest_14 (by decide) ?_
    refine kR (kV Cc (mX5_edgeOf l D κ τ a h) (qX5_edgeOf hts (tw_925 hts) ⟨(Nat.le_of_ble_eq_true rfl), (Nat.le_of_ble_eq_true rfl)⟩) (va_recv hE.1 hPt (ci := 5) (q0 := 0) rfl rfl) (rest := []) hPt rfl hl.1 rfl (Nat.le_of_ble_eq_true rfl) dX5_leastRest_15 ⟨Nat.zero_le _, Nat.zero_le _⟩) (fun r15 h => ?_)
    exact W.iret (v := r15) hx hb hr (fun t ht _ => RQ.mk h ht) (fun _ h9 => by cases h9) dX5_leastRest_18 (hlocks := hlk)
theorem qX5_leastRest {R : Room} {s : State} {args : Array Value} {own : String} {idx : Nat} (hts : ∀ w ∈ gG, w.before args s = true) (hl : (Cond.methodLink own idx yX5_leastRest).before args s = true) (hR : rX5_leastRest.frames + 1 ≤ R.frames ∧ 8 + (6 + 11) + rX5_leastRest.locals ≤ R.locals) : CallW R s args own RX5 idx yX5_leastRest cX5_leastRest 6 (some .int) (wz yX5_leastRest cX5_leastRest 6 (some .int)) rX5_leastRest 0 0 2 := ⟨kw 2 hts mw_996 rfl rfl (tw_75 hts) hl (by decide +kernel) hR, tw_995 hts, tw_47 hts⟩
abbrev rX5_isTabled : Room := { frames := 5, cells := 0, slots := 0, locals := 115 }
def pX5_isTabled_52 (ih2 : Int32 → Mx → Prop) (ih16 : Int32 → Int32 → Mx → Prop) (Q : Mx → Prop) (x1 : Int32) (x2 : Int32) (σ : Mx) : Prop := ih16 x1 (x2 + 1) σ
def pX5_isTabled_16s (ih2 : Int32 → Mx → Prop) (ih16 : Int32 → Int32 → Mx → Prop) (Q : Mx → Prop) (x1 : Int32) (x2 : Int32) (σ : Mx) : Prop := vp_in 1 67 ∧ (((σ 0 (1 : Int32).toNatClampNeg) ≤ x2 → (ih2 (x1 + 1) σ)) ∧ (¬ (σ 0 (1 : Int32).toNatClampNeg) ≤ x2 → ((¬ ((x1 >>> (x2 &&& 31)) &&& 1) = 1 → (pX5_isTabled_52 ih2 ih16 Q x1 x2 σ)) ∧ (((x1 >>> (x2 &&& 31)) &&& 1) = 1 → (pX5_leastRest σ x1 x2 (fun r48 => (vp_in ((8 * x1) + x2) 2048 ∧ (pX5_isTabled_52 ih2 ih16 Q x1 x2 (st σ 5 ((8 * x1) + x2).toNatClampNeg r48)))))))))
noncomputable def pX5_isTabled_16 (ih2 : Int32 → Mx → Prop) (Q : Mx → Prop) (n : Nat) : Int32 → Int32 → Mx → Prop := Nat.rec (motive := fun _ => Int32 → Int32 → Mx → Prop) (fun _ _ _ => False) (fun _ ih => pX5_isTabled_16s ih2 ih Q) n
def pX5_isTabled_2s  (ih2 : Int32 → Mx → Prop) (Q : Mx → Prop) (x1 : Int32) (σ : Mx) : Prop := vp_in 1 67 ∧ (((1 <<< ((σ 0 (1 : Int32).toNatClampNeg) &&& 31)) ≤ x1 → (Q σ)) ∧ (¬ (1 <<< ((σ 0 (1 : Int32).toNatClampNeg) &&& 31)) ≤ x1 → (∃ n, pX5_isTabled_16 ih2 Q n x1 0 σ)))
noncomputable def pX5_isTabled_2 (Q : Mx → Prop) (n : Nat) : Int32 → Mx → Prop := Nat.rec (motive := fun _ => Int32 → Mx → Prop) (fun _ _ => False) (fun _ ih => pX5_isTabled_2s ih Q) n
def pX5_isTabled (σ : Mx)  (Q : Mx → Prop) : Prop := ∃ n, pX5_isTabled_2 Q n 1 σ
set_option maxHeartbeats 4000000 in
set_option maxRecDepth 100000 in
theorem bX5_isTabled_52 {p : Program} {l : Launch} {e : Env} {s : State} {m : MethodId} {args : Array Value} {below : List Frame} {meth : Method} {c : Code} {D : va_G} {κ : Nat → ClassId} {τ : Nat → Nat} {a : Nat → Nat}  {ih2 : Int32 → Mx → Prop} {ih16 : Int32 → Int32 → Mx → Prop} {Q : Mx → Prop} (Cc : Cx D κ RX5 cX5_isTabled 3 none p s m args meth c) (hIt : Ij a 13)  (hih2 : ∀ (x1 : Int32) (σ : Mx) (H : Heap) (locs : List Loc) (hPt : va_P D classes (wMo κ τ a σ) H) (hS : va_S (cA a 13) s.heap H locs) (ls : Array Slot) (hl : lv_has ls 3 [(0, .ref (a 0)), (1, .int x1)]) (h : ih2 x1 σ), W p l e rX5_isTabled s m args below meth c H locs 0 0 (MQ below (QWv Q (fun u H => va_P D classes (wMo κ τ a u) H) (cA a 13)) args s 0 0 (cA a 13)) (F0 m 2 ls [])) (hih16 : ∀ (x1 : Int32) (x2 : Int32) (σ : Mx) (H : Heap) (locs : List Loc) (hPt : va_P D classes (wMo κ τ a σ) H) (hS : va_S (cA a 13) s.heap H locs) (ls : Array Slot) (hl : lv_has ls 3 [(0, .ref (a 0)), (1, .int x1), (2, .int x2)]) (h : ih16 x1 x2 σ), W p l e rX5_isTabled s m args below meth c H locs 0 0 (MQ below (QWv Q (fun u H => va_P D classes (wMo κ τ a u) H) (cA a 13)) args s 0 0 (cA a 13)) (F0 m 16 ls [])) : ∀ (x1 : Int32) (x2 : Int32) (σ : Mx) (H : Heap) (locs : List Loc) (hPt : va_P D classes (wMo κ τ a σ) H) (hS : va_S (cA a 13) s.heap H locs) (ls : Array Slot) (hl : lv_has ls 3 [(0, .ref (a 0)), (1, .int x1), (2, .int x2)]) (h : pX5_isTabled_52 ih2 ih16 Q x1 x2 σ), W p l e rX5_isTabled s m args below meth c H locs 0 0 (MQ below (QWv Q (fun u H => va_P D classes (wMo κ τ a u) H) (cA a 13)) args s 0 0 (cA a 13)) (F0 m 52 ls []) := by
  obtain ⟨hx, hb, hml, hown, hts, hr, hlk, hE⟩ := id Cc
  intro x1 x2 σ H locs hPt hS ls hl h
  unfold pX5_isTabled_52 at h
  refine lv_iinc (v := (x2 + 1)) (lv' := [(2, .int (x2 + 1)), (0, .ref (a 0)), (1, .int x1)]) hx hb dX5_isTabled_52 hl (k := 2) rfl rfl (by decide) rfl (fun ls hl => ?_)
  refine lv_goto (tgt := 16) hx hb dX5_isTabled_55 (by decide) ?_
  exact hih16 x1 (x2 + 1) σ _ _ hPt hS _ (lv_sub hl [1, 2, 0] rfl) h
set_option maxHeartbeats 4000000 in
set_option maxRecDepth 100000 in
theorem bX5_isTabled_16 {p : Program} {l : Launch} {e : Env} {s : State} {m : MethodId} {args : Array Value} {below : List Frame} {meth : Method} {c : Code} {D : va_G} {κ : Nat → ClassId} {τ : Nat → Nat} {a : Nat → Nat}  {ih2 : Int32 → Mx → Prop} {Q : Mx → Prop} (Cc : Cx D κ RX5 cX5_isTabled 3 none p s m args meth c) (hIt : Ij a 13)  (hih2 : ∀ (x1 : Int32) (σ : Mx) (H : Heap) (locs : List Loc) (hPt : va_P D classes (wMo κ τ a σ) H) (hS : va_S (cA a 13) s.heap H locs) (ls : Array Slot) (hl : lv_has ls 3 [(0, .ref (a 0)), (1, .int x1)]) (h : ih2 x1 σ), W p l e rX5_isTabled s m args below meth c H locs 0 0 (MQ below (QWv Q (fun u H => va_P D classes (wMo κ τ a u) H) (cA a 13)) args s 0 0 (cA a 13)) (F0 m 2 ls [])) (n : Nat) : ∀ (x1 : Int32) (x2 : Int32) (σ : Mx) (H : Heap) (locs : List Loc) (hPt : va_P D classes (wMo κ τ a σ) H) (hS : va_S (cA a 13) s.heap H locs) (ls : Array Slot) (hl : lv_has ls 3 [(0, .ref (a 0)), (1, .int x1), (2, .int x2)]) (h : pX5_isTabled_16 ih2 Q n x1 x2 σ), W p l e rX5_isTabled s m args below meth c H locs 0 0 (MQ below (QWv Q (fun u H => va_P D classes (wMo κ τ a u) H) (cA a 13)) args s 0 0 (cA a 13)) (F0 m 16 ls []) := by
  obtain ⟨hx, hb, hml, hown, hts, hr, hlk, hE⟩ := id Cc
  induction n with
  | zero =>
    intro x1 x2 σ H locs hPt hS ls hl h
    exact absurd h (fun z => z)
  | succ n hih16 =>
    intro x1 x2 σ H locs hPt hS ls hl h
    have h : pX5_isTabled_16s ih2 (pX5_isTabled_16 ih2 Q n) Q x1 x2 σ := h
    unfold pX5_isTabled_16s at h
    refine lv_iload_n hx hb dX5_isTabled_16 rfl (lv_at hl 2 rfl) ?_
    refine lv_aload_n hx hb dX5_isTabled_17 rfl (lv_at hl 0 rfl) ?_
    refine gMo_0 Cc hPt (tw_761 hts) dX5_isTabled_18 ?_
    refine lv_iconst (v := 1) hx hb dX5_isTabled_21 (by decide) ?_
    refine lMo_0 Cc hPt h.1 dX5_isTabled_22 ?_
    have h := h.2
    refine lv_icmp_ge (tgt := 58) hx hb dX5_isTabled_23 (by decide) (fun c23 => ?_) (fun c23 => ?_)
    · have h := h.1 c23
      refine lv_iinc (v := (x1 + 1)) (lv' := [(1, .int (x1 + 1)), (0, .ref (a 0)), (2, .int x2)]) hx hb dX5_isTabled_58 hl (k := 1) rfl rfl (by decide) rfl (fun ls hl => ?_)
      refine lv_goto (tgt := 2) hx hb dX5_isTabled_61 (by decide) ?_
      exact hih2 (x1 + 1) σ _ _ hPt hS _ (lv_sub hl [1, 0] rfl) h
    · have h := h.2 c23
      refine lv_iload_n hx hb dX5_isTabled_26 rfl (lv_at hl 1 rfl) ?_
      refine lv_iload_n hx hb dX5_isTabled_27 rfl (lv_at hl 2 rfl) ?_
      refine lv_ishr hx hb dX5_isTabled_28 ?_
      refine lv_iconst (v := 1) hx hb dX5_isTabled_29 (by decide) ?_
      refine lv_iand hx hb dX5_isTabled_30 ?_
      refine lv_iconst (v := 1) hx hb dX5_isTabled_31 (by decide) ?_
      refine lv_icmp_ne (tgt := 52) hx hb dX5_isTabled_32 (by decide) (fun c32 => ?_) (fun c32 => ?_)
      · have h := h.1 c32
        exact bX5_isTabled_52 Cc hIt hih2 hih16 x1 x2 σ _ _ hPt hS _ (lv_sub hl [0, 1, 2] rfl) h
      · have h := h.2 c32
        refine lv_aload_n hx hb dX5_isTabled_35 rfl (lv_at hl 0 rfl) ?_
        refine gMo_5 Cc hPt (tw_766 hts) dX5_isTabled_36 ?_
        refine lv_bipush (v := 8) hx hb dX5_isTabled_39 (by decide) ?_
        refine lv_iload_n hx hb dX5_isTabled_41 rfl (lv_at hl 1 rfl) ?_
        refine lv_imul hx hb dX5_isTabled_42 ?_
        refine lv_iload_n hx hb dX5_isTabled_43 rfl (lv_at hl 2 rfl) ?_
        refine lv_iadd hx hb dX5_isTabled_44 ?_
        refine lv_aload_n hx hb dX5_isTabled_45 rfl (lv_at hl 0 rfl) ?_
        refine lv_iload_n hx hb dX5_isTabled_46 rfl (lv_at hl 1 rfl) ?_
        refine lv_iload_n hx hb dX5_isTabled_47 rfl (lv_at hl 2 rfl) ?_
        refine kR (kV Cc (mX5_leastRest l D κ τ a h) (qX5_leastRest hts (tw_993 hts) ⟨(Nat.le_of_ble_eq_true rfl), (Nat.le_of_ble_eq_true rfl)⟩) (va_recv hE.1 hPt (ci := 5) (q0 := 0) rfl rfl) (rest := [.int ((8 * x1) + x2), .ref (a 5)]) hPt rfl hl.1 rfl (Nat.le_of_ble_eq_true rfl) dX5_isTabled_48 ⟨Nat.zero_le _, Nat.zero_le _⟩) (fun r48 h => ?_)
        refine sMo_5 Cc hPt hIt hS ⟨5, by decide, rfl⟩ h.1 dX5_isTabled_51 (fun H1 locs1 hB hS1 hk => ?_)
        have h := h.2
        have hPt := hB
        have hS := hS1
        exact bX5_isTabled_52 Cc hIt hih2 hih16 x1 x2 (st σ 5 ((8 * x1) + x2).toNatClampNeg r48) _ _ hPt hS _ (lv_sub hl [0, 1, 2] rfl) h
set_option maxHeartbeats 4000000 in
set_option maxRecDepth 100000 in
theorem bX5_isTabled_2 {p : Program} {l : Launch} {e : Env} {s : State} {m : MethodId} {args : Array Value} {below : List Frame} {meth : Method} {c : Code} {D : va_G} {κ : Nat → ClassId} {τ : Nat → Nat} {a : Nat → Nat}   {Q : Mx → Prop} (Cc : Cx D κ RX5 cX5_isTabled 3 none p s m args meth c) (hIt : Ij a 13)   (n : Nat) : ∀ (x1 : Int32) (σ : Mx) (H : Heap) (locs : List Loc) (hPt : va_P D classes (wMo κ τ a σ) H) (hS : va_S (cA a 13) s.heap H locs) (ls : Array Slot) (hl : lv_has ls 3 [(0, .ref (a 0)), (1, .int x1)]) (h : pX5_isTabled_2 Q n x1 σ), W p l e rX5_isTabled s m args below meth c H locs 0 0 (MQ below (QWv Q (fun u H => va_P D classes (wMo κ τ a u) H) (cA a 13)) args s 0 0 (cA a 13)) (F0 m 2 ls []) := by
  obtain ⟨hx, hb, hml, hown, hts, hr, hlk, hE⟩ := id Cc
  induction n with
  | zero =>
    intro x1 σ H locs hPt hS ls hl h
    exact absurd h (fun z => z)
  | succ n hih2 =>
    intro x1 σ H locs hPt hS ls hl h
    have h : pX5_isTabled_2s (pX5_isTabled_2 Q n) Q x1 σ := h
    unfold pX5_isTabled_2s at h
    refine lv_iload_n hx hb dX5_isTabled_2 rfl (lv_at hl 1 rfl) ?_
    refine lv_iconst (v := 1) hx hb dX5_isTabled_3 (by decide) ?_
    refine lv_aload_n hx hb dX5_isTabled_4 rfl (lv_at hl 0 rfl) ?_
    refine gMo_0 Cc hPt (tw_761 hts) dX5_isTabled_5 ?_
    refine lv_iconst (v := 1) hx hb dX5_isTabled_8 (by decide) ?_
    refine lMo_0 Cc hPt h.1 dX5_isTabled_9 ?_
    have h := h.2
    refine lv_ishl hx hb dX5_isTabled_10 ?_
    refine lv_icmp_ge (tgt := 64) hx hb dX5_isTabled_11 (by decide) (fun c11 => ?_) (fun c11 => ?_)
    · have h := h.1 c11
      exact W.vret hx hb hr (fun t ht _ => QWv.mk (u := σ) h hPt hS ht) hS.2.2 dX5_isTabled_64 (hlocks := hlk)
    · have h := h.2 c11
      refine lv_iconst (v := 0) hx hb dX5_isTabled_14 (by decide) ?_
      refine lv_istore_n (lv' := [(2, .int 0), (0, .ref (a 0)), (1, .int x1)]) hx hb dX5_isTabled_15 rfl hl (by decide) rfl (fun ls hl => ?_)
      obtain ⟨n, h⟩ := h
      exact bX5_isTabled_16 Cc hIt hih2 n x1 0 σ _ _ hPt hS _ (lv_sub hl [1, 2, 0] rfl) h
set_option maxHeartbeats 4000000 in
set_option maxRecDepth 100000 in
theorem mX5_isTabled (l : Launch) (D : va_G) (κ : Nat → ClassId) (τ : Nat → Nat) (a : Nat → Nat) {σ : Mx}  {Q : Mx → Prop} (hIt : Ij a 13) (h : pX5_isTabled σ  Q) : Met l yX5_isTabled (wz yX5_isTabled cX5_isTabled 3 none) rX5_isTabled (va_Pc [.ref (a 0)] (PE D κ (fun H => va_P D classes (wMo κ τ a σ) H))) (QWv Q (fun u H => va_P D classes (wMo κ τ a u) H) (cA a 13)) 0 0 (cA a 13) := by
  refine Met_of l (own := RX5) (by decide) rfl (Nat.le_of_ble_eq_true rfl) (fun p e s m below meth c Cc hPP ls hl => ?_)
  obtain ⟨hx, hb, hml, hown, hts, hr, hlk, hE⟩ := id Cc
  have hl : lv_has ls 3 [(0, .ref (a 0))] := hl
  have hPt := hPP
  have hS : va_S (cA a 13) s.heap s.heap [] := va_S.rf
  unfold pX5_isTabled at h
  refine lv_iconst (v := 1) hx hb dX5_isTabled_0 (by decide) ?_
  refine lv_istore_n (lv' := [(1, .int 1), (0, .ref (a 0))]) hx hb dX5_isTabled_1 rfl hl (by decide) rfl (fun ls hl => ?_)
  obtain ⟨n, h⟩ := h
  exact bX5_isTabled_2 Cc hIt n 1 σ _ _ hPt hS _ (lv_sub hl [1, 0] rfl) h
theorem qX5_isTabled {R : Room} {s : State} {args : Array Value} {own : String} {idx : Nat} (hts : ∀ w ∈ gG, w.before args s = true) (hl : (Cond.methodLink own idx yX5_isTabled).before args s = true) (hR : rX5_isTabled.frames + 1 ≤ R.frames ∧ 8 + (3 + 11) + rX5_isTabled.locals ≤ R.locals) : CallW R s args own RX5 idx yX5_isTabled cX5_isTabled 3 none (wz yX5_isTabled cX5_isTabled 3 none) rX5_isTabled 0 0 0 := ⟨kw 0 hts mw_992 rfl rfl (tw_75 hts) hl (by decide +kernel) hR, tw_991 hts, tw_46 hts⟩
abbrev rX5_everything : Room := { frames := 0, cells := 0, slots := 0, locals := 0 }
def pX5_everything (σ : Mx)  (Q : Int32 → Prop) : Prop := vp_in 1 67 ∧ (Q ((1 <<< ((σ 0 (1 : Int32).toNatClampNeg) &&& 31)) - 1))
set_option maxHeartbeats 4000000 in
set_option maxRecDepth 100000 in
theorem mX5_everything (l : Launch) (D : va_G) (κ : Nat → ClassId) (τ : Nat → Nat) (a : Nat → Nat) {σ : Mx}  {Q : Int32 → Prop}  (h : pX5_everything σ  Q) : Met l yX5_everything (wz yX5_everything cX5_everything 1 (some .int)) rX5_everything (va_Pc [.ref (a 0)] (PE D κ (fun H => va_P D classes (wMo κ τ a σ) H))) (RQ Q) 0 0 (fun _ => False) := by
  refine Met_of l (own := RX5) (by decide) rfl (Nat.le_of_ble_eq_true rfl) (fun p e s m below meth c Cc hPP ls hl => ?_)
  obtain ⟨hx, hb, hml, hown, hts, hr, hlk, hE⟩ := id Cc
  have hl : lv_has ls 1 [(0, .ref (a 0))] := hl
  have hPt := hPP
  unfold pX5_everything at h
  refine lv_iconst (v := 1) hx hb dX5_everything_0 (by decide) ?_
  refine lv_aload_n hx hb dX5_everything_1 rfl (lv_at hl 0 rfl) ?_
  refine gMo_0 Cc hPt (tw_761 hts) dX5_everything_2 ?_
  refine lv_iconst (v := 1) hx hb dX5_everything_5 (by decide) ?_
  refine lMo_0 Cc hPt h.1 dX5_everything_6 ?_
  have h := h.2
  refine lv_ishl hx hb dX5_everything_7 ?_
  refine lv_iconst (v := 1) hx hb dX5_everything_8 (by decide) ?_
  refine lv_isub hx hb dX5_everything_9 ?_
  exact W.iret (v := ((1 <<< ((σ 0 (1 : Int32).toNatClampNeg) &&& 31)) - 1)) hx hb hr (fun t ht _ => RQ.mk h ht) (fun _ h9 => by cases h9) dX5_everything_10 (hlocks := hlk)
theorem qX5_everything {R : Room} {s : State} {args : Array Value} {own : String} {idx : Nat} (hts : ∀ w ∈ gG, w.before args s = true) (hl : (Cond.methodLink own idx yX5_everything).before args s = true) (hR : rX5_everything.frames + 1 ≤ R.frames ∧ 8 + (1 + 11) + rX5_everything.locals ≤ R.locals) : CallW R s args own RX5 idx yX5_everything cX5_everything 1 (some .int) (wz yX5_everything cX5_everything 1 (some .int)) rX5_everything 0 0 0 := ⟨kw 0 hts mw_1001 rfl rfl (tw_75 hts) hl (by decide +kernel) hR, tw_1000 hts, tw_48 hts⟩
abbrev rX5_bestNext : Room := { frames := 4, cells := 0, slots := 0, locals := 90 }
def pX5_bestNext_80 (σ : Mx) (ih9 : Int32 → Int32 → Int32 → Int32 → Int32 → Prop) (Q : Int32 → Prop) (x1 : Int32) (x2 : Int32) (x3 : Int32) (x4 : Int32) (x5 : Int32) : Prop := ih9 x1 x2 x3 x4 (x5 + 1)
def pX5_bestNext_63 (σ : Mx) (ih9 : Int32 → Int32 → Int32 → Int32 → Int32 → Prop) (Q : Int32 → Prop) (x1 : Int32) (x2 : Int32) (x3 : Int32) (x4 : Int32) (x5 : Int32) (y0 : Int32) (y1 : Int32) : Prop := ∀ v64 : Int32, v64 = (y1 + y0) → ((x4 ≤ v64 → (pX5_bestNext_80 σ ih9 Q x1 x2 x3 x4 x5)) ∧ (¬ x4 ≤ v64 → (pX5_bestNext_80 σ ih9 Q x1 x2 x5 v64 x5)))
def pX5_bestNext_9s (σ : Mx) (ih9 : Int32 → Int32 → Int32 → Int32 → Int32 → Prop) (Q : Int32 → Prop) (x1 : Int32) (x2 : Int32) (x3 : Int32) (x4 : Int32) (x5 : Int32) : Prop := vp_in 1 67 ∧ (((σ 0 (1 : Int32).toNatClampNeg) ≤ x5 → (Q x3)) ∧ (¬ (σ 0 (1 : Int32).toNatClampNeg) ≤ x5 → ((¬ ((x1 >>> (x5 &&& 31)) &&& 1) = 1 → (pX5_bestNext_80 σ ih9 Q x1 x2 x3 x4 x5)) ∧ (((x1 >>> (x5 &&& 31)) &&& 1) = 1 → (vp_in ((8 * x1) + x5) 2048 ∧ ((0 ≤ x2 → (pX5_gapOf σ x2 x5 (fun r60 => (pX5_bestNext_63 σ ih9 Q x1 x2 x3 x4 x5 r60 (σ 5 ((8 * x1) + x5).toNatClampNeg))))) ∧ (¬ 0 ≤ x2 → (pX5_edgeOf σ x5 0 (fun r50 => (pX5_bestNext_63 σ ih9 Q x1 x2 x3 x4 x5 r50 (σ 5 ((8 * x1) + x5).toNatClampNeg)))))))))))
noncomputable def pX5_bestNext_9 (σ : Mx) (Q : Int32 → Prop) (n : Nat) : Int32 → Int32 → Int32 → Int32 → Int32 → Prop := Nat.rec (motive := fun _ => Int32 → Int32 → Int32 → Int32 → Int32 → Prop) (fun _ _ _ _ _ => False) (fun _ ih => pX5_bestNext_9s σ ih Q) n
def pX5_bestNext (σ : Mx) (x1 : Int32) (x2 : Int32) (Q : Int32 → Prop) : Prop := ∃ n, pX5_bestNext_9 σ Q n x1 x2 (-1) 1000000 0
set_option maxHeartbeats 4000000 in
set_option maxRecDepth 100000 in
theorem bX5_bestNext_80 {p : Program} {l : Launch} {e : Env} {s : State} {m : MethodId} {args : Array Value} {below : List Frame} {meth : Method} {c : Code} {D : va_G} {κ : Nat → ClassId} {τ : Nat → Nat} {a : Nat → Nat} {σ : Mx} {ih9 : Int32 → Int32 → Int32 → Int32 → Int32 → Prop} {Q : Int32 → Prop} (Cc : Cx D κ RX5 cX5_bestNext 7 (some .int) p s m args meth c)  (hPt : va_P D classes (wMo κ τ a σ) s.heap) (hih9 : ∀ (x1 : Int32) (x2 : Int32) (x3 : Int32) (x4 : Int32) (x5 : Int32) (ls : Array Slot) (hl : lv_has ls 7 [(0, .ref (a 0)), (1, .int x1), (2, .int x2), (3, .int x3), (4, .int x4), (5, .int x5)]) (h : ih9 x1 x2 x3 x4 x5), W p l e rX5_bestNext s m args below meth c s.heap [] 0 0 (MQ below (RQ Q) args s 0 0 (fun _ => False)) (F0 m 9 ls [])) : ∀ (x1 : Int32) (x2 : Int32) (x3 : Int32) (x4 : Int32) (x5 : Int32) (ls : Array Slot) (hl : lv_has ls 7 [(0, .ref (a 0)), (1, .int x1), (2, .int x2), (3, .int x3), (4, .int x4), (5, .int x5)]) (h : pX5_bestNext_80 σ ih9 Q x1 x2 x3 x4 x5), W p l e rX5_bestNext s m args below meth c s.heap [] 0 0 (MQ below (RQ Q) args s 0 0 (fun _ => False)) (F0 m 80 ls []) := by
  obtain ⟨hx, hb, hml, hown, hts, hr, hlk, hE⟩ := id Cc
  intro x1 x2 x3 x4 x5 ls hl h
  unfold pX5_bestNext_80 at h
  refine lv_iinc (v := (x5 + 1)) (lv' := [(5, .int (x5 + 1)), (0, .ref (a 0)), (1, .int x1), (2, .int x2), (3, .int x3), (4, .int x4)]) hx hb dX5_bestNext_80 hl (k := 5) rfl rfl (by decide) rfl (fun ls hl => ?_)
  refine lv_goto (tgt := 9) hx hb dX5_bestNext_83 (by decide) ?_
  exact hih9 x1 x2 x3 x4 (x5 + 1)  _ (lv_sub hl [1, 2, 3, 4, 5, 0] rfl) h
set_option maxHeartbeats 4000000 in
set_option maxRecDepth 100000 in
theorem bX5_bestNext_63 {p : Program} {l : Launch} {e : Env} {s : State} {m : MethodId} {args : Array Value} {below : List Frame} {meth : Method} {c : Code} {D : va_G} {κ : Nat → ClassId} {τ : Nat → Nat} {a : Nat → Nat} {σ : Mx} {ih9 : Int32 → Int32 → Int32 → Int32 → Int32 → Prop} {Q : Int32 → Prop} (Cc : Cx D κ RX5 cX5_bestNext 7 (some .int) p s m args meth c)  (hPt : va_P D classes (wMo κ τ a σ) s.heap) (hih9 : ∀ (x1 : Int32) (x2 : Int32) (x3 : Int32) (x4 : Int32) (x5 : Int32) (ls : Array Slot) (hl : lv_has ls 7 [(0, .ref (a 0)), (1, .int x1), (2, .int x2), (3, .int x3), (4, .int x4), (5, .int x5)]) (h : ih9 x1 x2 x3 x4 x5), W p l e rX5_bestNext s m args below meth c s.heap [] 0 0 (MQ below (RQ Q) args s 0 0 (fun _ => False)) (F0 m 9 ls [])) : ∀ (x1 : Int32) (x2 : Int32) (x3 : Int32) (x4 : Int32) (x5 : Int32) (y0 : Int32) (y1 : Int32) (ls : Array Slot) (hl : lv_has ls 7 [(0, .ref (a 0)), (1, .int x1), (2, .int x2), (3, .int x3), (4, .int x4), (5, .int x5)]) (h : pX5_bestNext_63 σ ih9 Q x1 x2 x3 x4 x5 y0 y1), W p l e rX5_bestNext s m args below meth c s.heap [] 0 0 (MQ below (RQ Q) args s 0 0 (fun _ => False)) (F0 m 63 ls [.int y0, .int y1]) := by
  obtain ⟨hx, hb, hml, hown, hts, hr, hlk, hE⟩ := id Cc
  intro x1 x2 x3 x4 x5 y0 y1 ls hl h
  unfold pX5_bestNext_63 at h
  refine lv_iadd hx hb dX5_bestNext_63 ?_
  refine lv_topi (fun v64 e64 => ?_)
  have h := h v64 e64
  refine lv_istore (lv' := [(6, .int v64), (0, .ref (a 0)), (1, .int x1), (2, .int x2), (3, .int x3), (4, .int x4), (5, .int x5)]) hx hb dX5_bestNext_64 hl (by decide) rfl (fun ls hl => ?_)
  refine lv_iload hx hb dX5_bestNext_66 (lv_at hl 0 rfl) ?_
  refine lv_iload hx hb dX5_bestNext_68 (lv_at hl 5 rfl) ?_
  refine lv_icmp_ge (tgt := 80) hx hb dX5_bestNext_70 (by decide) (fun c70 => ?_) (fun c70 => ?_)
  · have h := h.1 c70
    exact bX5_bestNext_80 Cc hPt hih9 x1 x2 x3 x4 x5  _ (lv_sub hl [1, 2, 3, 4, 5, 6] rfl) h
  · have h := h.2 c70
    refine lv_iload hx hb dX5_bestNext_73 (lv_at hl 6 rfl) ?_
    refine lv_istore_n (lv' := [(3, .int x5), (6, .int v64), (0, .ref (a 0)), (1, .int x1), (2, .int x2), (4, .int x4), (5, .int x5)]) hx hb dX5_bestNext_75 rfl hl (by decide) rfl (fun ls hl => ?_)
    refine lv_iload hx hb dX5_bestNext_76 (lv_at hl 1 rfl) ?_
    refine lv_istore (lv' := [(4, .int v64), (3, .int x5), (6, .int v64), (0, .ref (a 0)), (1, .int x1), (2, .int x2), (5, .int x5)]) hx hb dX5_bestNext_78 hl (by decide) rfl (fun ls hl => ?_)
    exact bX5_bestNext_80 Cc hPt hih9 x1 x2 x5 v64 x5  _ (lv_sub hl [3, 4, 5, 1, 0, 6] rfl) h
set_option maxHeartbeats 4000000 in
set_option maxRecDepth 100000 in
theorem bX5_bestNext_9 {p : Program} {l : Launch} {e : Env} {s : State} {m : MethodId} {args : Array Value} {below : List Frame} {meth : Method} {c : Code} {D : va_G} {κ : Nat → ClassId} {τ : Nat → Nat} {a : Nat → Nat} {σ : Mx}  {Q : Int32 → Prop} (Cc : Cx D κ RX5 cX5_bestNext 7 (some .int) p s m args meth c)  (hPt : va_P D classes (wMo κ τ a σ) s.heap)  (n : Nat) : ∀ (x1 : Int32) (x2 : Int32) (x3 : Int32) (x4 : Int32) (x5 : Int32) (ls : Array Slot) (hl : lv_has ls 7 [(0, .ref (a 0)), (1, .int x1), (2, .int x2), (3, .int x3), (4, .int x4), (5, .int x5)]) (h : pX5_bestNext_9 σ Q n x1 x2 x3 x4 x5), W p l e rX5_bestNext s m args below meth c s.heap [] 0 0 (MQ below (RQ Q) args s 0 0 (fun _ => False)) (F0 m 9 ls []) := by
  obtain ⟨hx, hb, hml, hown, hts, hr, hlk, hE⟩ := id Cc
  induction n with
  | zero =>
    intro x1 x2 x3 x4 x5 ls hl h
    exact absurd h (fun z => z)
  | succ n hih9 =>
    intro x1 x2 x3 x4 x5 ls hl h
    have h : pX5_bestNext_9s σ (pX5_bestNext_9 σ Q n) Q x1 x2 x3 x4 x5 := h
    unfold pX5_bestNext_9s at h
    refine lv_iload hx hb dX5_bestNext_9 (lv_at hl 5 rfl) ?_
    refine lv_aload_n hx hb dX5_bestNext_11 rfl (lv_at hl 0 rfl) ?_
    refine gMo_0 Cc hPt (tw_761 hts) dX5_bestNext_12 ?_
    refine lv_iconst (v := 1) hx hb dX5_bestNext_15 (by decide) ?_
    refine lMo_0 Cc hPt h.1 dX5_bestNext_16 ?_
    have h := h.2
    refine lv_icmp_ge (tgt := 86) hx hb dX5_bestNext_17 (by decide) (fun c17 => ?_) (fun c17 => ?_)
    · have h := h.1 c17
      refine lv_iload_n hx hb dX5_bestNext_86 rfl (lv_at hl 3 rfl) ?_
      exact W.iret (v := x3) hx hb hr (fun t ht _ => RQ.mk h ht) (fun _ h9 => by cases h9) dX5_bestNext_87 (hlocks := hlk)
    · have h := h.2 c17
      refine lv_iload_n hx hb dX5_bestNext_20 rfl (lv_at hl 1 rfl) ?_
      refine lv_iload hx hb dX5_bestNext_21 (lv_at hl 5 rfl) ?_
      refine lv_ishr hx hb dX5_bestNext_23 ?_
      refine lv_iconst (v := 1) hx hb dX5_bestNext_24 (by decide) ?_
      refine lv_iand hx hb dX5_bestNext_25 ?_
      refine lv_iconst (v := 1) hx hb dX5_bestNext_26 (by decide) ?_
      refine lv_icmp_ne (tgt := 80) hx hb dX5_bestNext_27 (by decide) (fun c27 => ?_) (fun c27 => ?_)
      · have h := h.1 c27
        exact bX5_bestNext_80 Cc hPt hih9 x1 x2 x3 x4 x5  _ (lv_sub hl [0, 1, 2, 3, 4, 5] rfl) h
      · have h := h.2 c27
        refine lv_aload_n hx hb dX5_bestNext_30 rfl (lv_at hl 0 rfl) ?_
        refine gMo_5 Cc hPt (tw_766 hts) dX5_bestNext_31 ?_
        refine lv_bipush (v := 8) hx hb dX5_bestNext_34 (by decide) ?_
        refine lv_iload_n hx hb dX5_bestNext_36 rfl (lv_at hl 1 rfl) ?_
        refine lv_imul hx hb dX5_bestNext_37 ?_
        refine lv_iload hx hb dX5_bestNext_38 (lv_at hl 5 rfl) ?_
        refine lv_iadd hx hb dX5_bestNext_40 ?_
        refine lMo_5 Cc hPt h.1 dX5_bestNext_41 ?_
        have h := h.2
        refine lv_iload_n hx hb dX5_bestNext_42 rfl (lv_at hl 2 rfl) ?_
        refine lv_if_ge (tgt := 56) hx hb dX5_bestNext_43 (by decide) (fun c43 => ?_) (fun c43 => ?_)
        · have h := h.1 c43
          refine lv_aload_n hx hb dX5_bestNext_56 rfl (lv_at hl 0 rfl) ?_
          refine lv_iload_n hx hb dX5_bestNext_57 rfl (lv_at hl 2 rfl) ?_
          refine lv_iload hx hb dX5_bestNext_58 (lv_at hl 5 rfl) ?_
          refine kR (kV Cc (mX5_gapOf l D κ τ a h) (qX5_gapOf hts (tw_908 hts) ⟨(Nat.le_of_ble_eq_true rfl), (Nat.le_of_ble_eq_true rfl)⟩) (va_recv hE.1 hPt (ci := 5) (q0 := 0) rfl rfl) (rest := [.int (σ 5 ((8 * x1) + x5).toNatClampNeg)]) hPt rfl hl.1 rfl (Nat.le_of_ble_eq_true rfl) dX5_bestNext_60 ⟨Nat.zero_le _, Nat.zero_le _⟩) (fun r60 h => ?_)
          exact bX5_bestNext_63 Cc hPt hih9 x1 x2 x3 x4 x5 r60 (σ 5 ((8 * x1) + x5).toNatClampNeg)  _ (lv_sub hl [0, 1, 2, 3, 4, 5] rfl) h
        · have h := h.2 c43
          refine lv_aload_n hx hb dX5_bestNext_46 rfl (lv_at hl 0 rfl) ?_
          refine lv_iload hx hb dX5_bestNext_47 (lv_at hl 5 rfl) ?_
          refine lv_iconst (v := 0) hx hb dX5_bestNext_49 (by decide) ?_
          refine kR (kV Cc (mX5_edgeOf l D κ τ a h) (qX5_edgeOf hts (tw_925 hts) ⟨(Nat.le_of_ble_eq_true rfl), (Nat.le_of_ble_eq_true rfl)⟩) (va_recv hE.1 hPt (ci := 5) (q0 := 0) rfl rfl) (rest := [.int (σ 5 ((8 * x1) + x5).toNatClampNeg)]) hPt rfl hl.1 rfl (Nat.le_of_ble_eq_true rfl) dX5_bestNext_50 ⟨Nat.zero_le _, Nat.zero_le _⟩) (fun r50 h => ?_)
          refine lv_goto (tgt := 63) hx hb dX5_bestNext_53 (by decide) ?_
          exact bX5_bestNext_63 Cc hPt hih9 x1 x2 x3 x4 x5 r50 (σ 5 ((8 * x1) + x5).toNatClampNeg)  _ (lv_sub hl [0, 1, 2, 3, 4, 5] rfl) h
set_option maxHeartbeats 4000000 in
set_option maxRecDepth 100000 in
theorem mX5_bestNext (l : Launch) (D : va_G) (κ : Nat → ClassId) (τ : Nat → Nat) (a : Nat → Nat) {σ : Mx} {x1 : Int32} {x2 : Int32} {Q : Int32 → Prop}  (h : pX5_bestNext σ x1 x2 Q) : Met l yX5_bestNext (wz yX5_bestNext cX5_bestNext 7 (some .int)) rX5_bestNext (va_Pc [.ref (a 0), .int x1, .int x2] (PE D κ (fun H => va_P D classes (wMo κ τ a σ) H))) (RQ Q) 0 0 (fun _ => False) := by
  refine Met_of l (own := RX5) (by decide) rfl (Nat.le_of_ble_eq_true rfl) (fun p e s m below meth c Cc hPP ls hl => ?_)
  obtain ⟨hx, hb, hml, hown, hts, hr, hlk, hE⟩ := id Cc
  have hl : lv_has ls 7 [(0, .ref (a 0)), (1, .int x1), (2, .int x2)] := hl
  have hPt := hPP
  unfold pX5_bestNext at h
  refine lv_iconst (v := (-1)) hx hb dX5_bestNext_0 (by decide) ?_
  refine lv_istore_n (lv' := [(3, .int (-1)), (0, .ref (a 0)), (1, .int x1), (2, .int x2)]) hx hb dX5_bestNext_1 rfl hl (by decide) rfl (fun ls hl => ?_)
  refine lv_ldc (own := RX5) (v := 1000000) hx hb hown (tw_997 hts) dX5_bestNext_2 ?_
  refine lv_istore (lv' := [(4, .int 1000000), (3, .int (-1)), (0, .ref (a 0)), (1, .int x1), (2, .int x2)]) hx hb dX5_bestNext_4 hl (by decide) rfl (fun ls hl => ?_)
  refine lv_iconst (v := 0) hx hb dX5_bestNext_6 (by decide) ?_
  refine lv_istore (lv' := [(5, .int 0), (4, .int 1000000), (3, .int (-1)), (0, .ref (a 0)), (1, .int x1), (2, .int x2)]) hx hb dX5_bestNext_7 hl (by decide) rfl (fun ls hl => ?_)
  obtain ⟨n, h⟩ := h
  exact bX5_bestNext_9 Cc hPt n x1 x2 (-1) 1000000 0  _ (lv_sub hl [3, 4, 5, 2, 1, 0] rfl) h
theorem qX5_bestNext {R : Room} {s : State} {args : Array Value} {own : String} {idx : Nat} (hts : ∀ w ∈ gG, w.before args s = true) (hl : (Cond.methodLink own idx yX5_bestNext).before args s = true) (hR : rX5_bestNext.frames + 1 ≤ R.frames ∧ 8 + (7 + 11) + rX5_bestNext.locals ≤ R.locals) : CallW R s args own RX5 idx yX5_bestNext cX5_bestNext 7 (some .int) (wz yX5_bestNext cX5_bestNext 7 (some .int)) rX5_bestNext 0 0 2 := ⟨kw 2 hts mw_1005 rfl rfl (tw_75 hts) hl (by decide +kernel) hR, tw_1004 hts, tw_49 hts⟩
abbrev rX5_bestSum : Room := { frames := 6, cells := 0, slots := 0, locals := 137 }
def pX5_bestSum (σ : Mx)  (Q : Int32 → Mx → Prop) : Prop := vp_in 1 67 ∧ ((¬ (σ 0 (1 : Int32).toNatClampNeg) = 0 → (pX5_isTabled σ (fun u12 => (pX5_everything u12 (fun r17 => (pX5_bestNext u12 r17 (-1) (fun r21 => (pX5_edgeOf u12 r21 0 (fun r28 => (pX5_everything u12 (fun r38 => (vp_in ((8 * r38) + r21) 2048 ∧ (Q (r28 + (u12 5 ((8 * r38) + r21).toNatClampNeg)) u12))))))))))))) ∧ ((σ 0 (1 : Int32).toNatClampNeg) = 0 → (Q 0 σ)))
set_option maxHeartbeats 4000000 in
set_option maxRecDepth 100000 in
theorem mX5_bestSum (l : Launch) (D : va_G) (κ : Nat → ClassId) (τ : Nat → Nat) (a : Nat → Nat) {σ : Mx}  {Q : Int32 → Mx → Prop} (hIt : Ij a 13) (h : pX5_bestSum σ  Q) : Met l yX5_bestSum (wz yX5_bestSum cX5_bestSum 2 (some .int)) rX5_bestSum (va_Pc [.ref (a 0)] (PE D κ (fun H => va_P D classes (wMo κ τ a σ) H))) (QWi Q (fun u H => va_P D classes (wMo κ τ a u) H) (cA a 13)) 0 0 (cA a 13) := by
  refine Met_of l (own := RX5) (by decide) rfl (Nat.le_of_ble_eq_true rfl) (fun p e s m below meth c Cc hPP ls hl => ?_)
  obtain ⟨hx, hb, hml, hown, hts, hr, hlk, hE⟩ := id Cc
  have hl : lv_has ls 2 [(0, .ref (a 0))] := hl
  have hPt := hPP
  have hS : va_S (cA a 13) s.heap s.heap [] := va_S.rf
  unfold pX5_bestSum at h
  refine lv_aload_n hx hb dX5_bestSum_0 rfl (lv_at hl 0 rfl) ?_
  refine gMo_0 Cc hPt (tw_761 hts) dX5_bestSum_1 ?_
  refine lv_iconst (v := 1) hx hb dX5_bestSum_4 (by decide) ?_
  refine lMo_0 Cc hPt h.1 dX5_bestSum_5 ?_
  have h := h.2
  refine lv_if_ne (tgt := 11) hx hb dX5_bestSum_6 (by decide) (fun c6 => ?_) (fun c6 => ?_)
  · have h := h.1 c6
    refine lv_aload_n hx hb dX5_bestSum_11 rfl (lv_at hl 0 rfl) ?_
    refine kWv (kV Cc (mX5_isTabled l D κ τ a hIt h) (qX5_isTabled hts (tw_989 hts) ⟨(Nat.le_of_ble_eq_true rfl), (Nat.le_of_ble_eq_true rfl)⟩) (va_recv hE.1 hPt (ci := 5) (q0 := 0) rfl rfl) (rest := []) hPt rfl hl.1 rfl (Nat.le_of_ble_eq_true rfl) dX5_bestSum_12 ⟨Nat.zero_le _, Nat.zero_le _⟩) hS (fun q h9 => h9) (fun  u12 H1 locs1 h hB hk hS1 => ?_)
    have hPt := hB
    have hS := hS1
    refine lv_aload_n hx hb dX5_bestSum_15 rfl (lv_at hl 0 rfl) ?_
    refine lv_aload_n hx hb dX5_bestSum_16 rfl (lv_at hl 0 rfl) ?_
    refine kR (kV Cc (mX5_everything l D κ τ a h) (qX5_everything hts (tw_998 hts) ⟨(Nat.le_of_ble_eq_true rfl), (Nat.le_of_ble_eq_true rfl)⟩) (va_recv hE.1 hPt (ci := 5) (q0 := 0) rfl rfl) (rest := [.ref (a 0)]) hPt rfl hl.1 rfl (Nat.le_of_ble_eq_true rfl) dX5_bestSum_17 ⟨Nat.zero_le _, Nat.zero_le _⟩) (fun r17 h => ?_)
    refine lv_iconst (v := (-1)) hx hb dX5_bestSum_20 (by decide) ?_
    refine kR (kV Cc (mX5_bestNext l D κ τ a h) (qX5_bestNext hts (tw_1002 hts) ⟨(Nat.le_of_ble_eq_true rfl), (Nat.le_of_ble_eq_true rfl)⟩) (va_recv hE.1 hPt (ci := 5) (q0 := 0) rfl rfl) (rest := []) hPt rfl hl.1 rfl (Nat.le_of_ble_eq_true rfl) dX5_bestSum_21 ⟨Nat.zero_le _, Nat.zero_le _⟩) (fun r21 h => ?_)
    refine lv_istore_n (lv' := [(1, .int r21), (0, .ref (a 0))]) hx hb dX5_bestSum_24 rfl hl (by decide) rfl (fun ls hl => ?_)
    refine lv_aload_n hx hb dX5_bestSum_25 rfl (lv_at hl 1 rfl) ?_
    refine lv_iload_n hx hb dX5_bestSum_26 rfl (lv_at hl 0 rfl) ?_
    refine lv_iconst (v := 0) hx hb dX5_bestSum_27 (by decide) ?_
    refine kR (kV Cc (mX5_edgeOf l D κ τ a h) (qX5_edgeOf hts (tw_925 hts) ⟨(Nat.le_of_ble_eq_true rfl), (Nat.le_of_ble_eq_true rfl)⟩) (va_recv hE.1 hPt (ci := 5) (q0 := 0) rfl rfl) (rest := []) hPt rfl hl.1 rfl (Nat.le_of_ble_eq_true rfl) dX5_bestSum_28 ⟨Nat.zero_le _, Nat.zero_le _⟩) (fun r28 h => ?_)
    refine lv_aload_n hx hb dX5_bestSum_31 rfl (lv_at hl 1 rfl) ?_
    refine gMo_5 Cc hPt (tw_766 hts) dX5_bestSum_32 ?_
    refine lv_bipush (v := 8) hx hb dX5_bestSum_35 (by decide) ?_
    refine lv_aload_n hx hb dX5_bestSum_37 rfl (lv_at hl 1 rfl) ?_
    refine kR (kV Cc (mX5_everything l D κ τ a h) (qX5_everything hts (tw_998 hts) ⟨(Nat.le_of_ble_eq_true rfl), (Nat.le_of_ble_eq_true rfl)⟩) (va_recv hE.1 hPt (ci := 5) (q0 := 0) rfl rfl) (rest := [.int 8, .ref (a 5), .int r28]) hPt rfl hl.1 rfl (Nat.le_of_ble_eq_true rfl) dX5_bestSum_38 ⟨Nat.zero_le _, Nat.zero_le _⟩) (fun r38 h => ?_)
    refine lv_imul hx hb dX5_bestSum_41 ?_
    refine lv_iload_n hx hb dX5_bestSum_42 rfl (lv_at hl 0 rfl) ?_
    refine lv_iadd hx hb dX5_bestSum_43 ?_
    refine lMo_5 Cc hPt h.1 dX5_bestSum_44 ?_
    have h := h.2
    refine lv_iadd hx hb dX5_bestSum_45 ?_
    exact W.iret (v := (r28 + (u12 5 ((8 * r38) + r21).toNatClampNeg))) hx hb hr (fun t ht _ => QWi.mk (u := u12) h hPt hS ht) hS.2.2 dX5_bestSum_46 (hlocks := hlk)
  · have h := h.2 c6
    refine lv_iconst (v := 0) hx hb dX5_bestSum_9 (by decide) ?_
    exact W.iret (v := 0) hx hb hr (fun t ht _ => QWi.mk (u := σ) h hPt hS ht) hS.2.2 dX5_bestSum_10 (hlocks := hlk)
theorem qX5_bestSum {R : Room} {s : State} {args : Array Value} {own : String} {idx : Nat} (hts : ∀ w ∈ gG, w.before args s = true) (hl : (Cond.methodLink own idx yX5_bestSum).before args s = true) (hR : rX5_bestSum.frames + 1 ≤ R.frames ∧ 8 + (2 + 11) + rX5_bestSum.locals ≤ R.locals) : CallW R s args own RX5 idx yX5_bestSum cX5_bestSum 2 (some .int) (wz yX5_bestSum cX5_bestSum 2 (some .int)) rX5_bestSum 0 0 0 := ⟨kw 0 hts mw_988 rfl rfl (tw_75 hts) hl (by decide +kernel) hR, tw_987 hts, tw_45 hts⟩
abbrev rX5_betterSwap : Room := { frames := 5, cells := 0, slots := 0, locals := 113 }
def pX5_betterSwap_72 (ih9 : Int32 → Int32 → Int32 → Mx → Prop) (ih24 : Int32 → Int32 → Int32 → Int32 → Mx → Prop) (Q : Int32 → Mx → Prop) (x1 : Int32) (x2 : Int32) (x3 : Int32) (x4 : Int32) (σ : Mx) : Prop := ih24 x1 x2 x3 (x4 + 1) σ
def pX5_betterSwap_24s (ih9 : Int32 → Int32 → Int32 → Mx → Prop) (ih24 : Int32 → Int32 → Int32 → Int32 → Mx → Prop) (Q : Int32 → Mx → Prop) (x1 : Int32) (x2 : Int32) (x3 : Int32) (x4 : Int32) (σ : Mx) : Prop := vp_in 1 67 ∧ (((σ 0 (1 : Int32).toNatClampNeg) ≤ x4 → (ih9 x1 x2 (x3 + 1) σ)) ∧ (¬ (σ 0 (1 : Int32).toNatClampNeg) ≤ x4 → (pX5_exchange σ x3 x4 (fun u39 => (pX5_sumNow u39 (fun r43 => (pX5_exchange u39 x3 x4 (fun u52 => ((x1 ≤ r43 → (pX5_betterSwap_72 ih9 ih24 Q x1 x2 x3 x4 u52)) ∧ (¬ x1 ≤ r43 → (∀ v68 : Int32, v68 = ((8 * x3) + x4) → (pX5_betterSwap_72 ih9 ih24 Q r43 v68 x3 x4 u52))))))))))))
noncomputable def pX5_betterSwap_24 (ih9 : Int32 → Int32 → Int32 → Mx → Prop) (Q : Int32 → Mx → Prop) (n : Nat) : Int32 → Int32 → Int32 → Int32 → Mx → Prop := Nat.rec (motive := fun _ => Int32 → Int32 → Int32 → Int32 → Mx → Prop) (fun _ _ _ _ _ => False) (fun _ ih => pX5_betterSwap_24s ih9 ih Q) n
def pX5_betterSwap_9s  (ih9 : Int32 → Int32 → Int32 → Mx → Prop) (Q : Int32 → Mx → Prop) (x1 : Int32) (x2 : Int32) (x3 : Int32) (σ : Mx) : Prop := vp_in 1 67 ∧ (((σ 0 (1 : Int32).toNatClampNeg) ≤ x3 → (Q x2 σ)) ∧ (¬ (σ 0 (1 : Int32).toNatClampNeg) ≤ x3 → (∀ v22 : Int32, v22 = (x3 + 1) → (∃ n, pX5_betterSwap_24 ih9 Q n x1 x2 x3 v22 σ))))
noncomputable def pX5_betterSwap_9 (Q : Int32 → Mx → Prop) (n : Nat) : Int32 → Int32 → Int32 → Mx → Prop := Nat.rec (motive := fun _ => Int32 → Int32 → Int32 → Mx → Prop) (fun _ _ _ _ => False) (fun _ ih => pX5_betterSwap_9s ih Q) n
def pX5_betterSwap (σ : Mx)  (Q : Int32 → Mx → Prop) : Prop := pX5_sumNow σ (fun r1 => (∃ n, pX5_betterSwap_9 Q n r1 (-1) 0 σ))
set_option maxHeartbeats 4000000 in
set_option maxRecDepth 100000 in
theorem bX5_betterSwap_72 {p : Program} {l : Launch} {e : Env} {s : State} {m : MethodId} {args : Array Value} {below : List Frame} {meth : Method} {c : Code} {D : va_G} {κ : Nat → ClassId} {τ : Nat → Nat} {a : Nat → Nat}  {ih9 : Int32 → Int32 → Int32 → Mx → Prop} {ih24 : Int32 → Int32 → Int32 → Int32 → Mx → Prop} {Q : Int32 → Mx → Prop} (Cc : Cx D κ RX5 cX5_betterSwap 6 (some .int) p s m args meth c) (hIt : Ij a 13)  (hih9 : ∀ (x1 : Int32) (x2 : Int32) (x3 : Int32) (σ : Mx) (H : Heap) (locs : List Loc) (hPt : va_P D classes (wMo κ τ a σ) H) (hS : va_S (cA a 13) s.heap H locs) (ls : Array Slot) (hl : lv_has ls 6 [(0, .ref (a 0)), (1, .int x1), (2, .int x2), (3, .int x3)]) (h : ih9 x1 x2 x3 σ), W p l e rX5_betterSwap s m args below meth c H locs 0 0 (MQ below (QWi Q (fun u H => va_P D classes (wMo κ τ a u) H) (cA a 13)) args s 0 0 (cA a 13)) (F0 m 9 ls [])) (hih24 : ∀ (x1 : Int32) (x2 : Int32) (x3 : Int32) (x4 : Int32) (σ : Mx) (H : Heap) (locs : List Loc) (hPt : va_P D classes (wMo κ τ a σ) H) (hS : va_S (cA a 13) s.heap H locs) (ls : Array Slot) (hl : lv_has ls 6 [(0, .ref (a 0)), (1, .int x1), (2, .int x2), (3, .int x3), (4, .int x4)]) (h : ih24 x1 x2 x3 x4 σ), W p l e rX5_betterSwap s m args below meth c H locs 0 0 (MQ below (QWi Q (fun u H => va_P D classes (wMo κ τ a u) H) (cA a 13)) args s 0 0 (cA a 13)) (F0 m 24 ls [])) : ∀ (x1 : Int32) (x2 : Int32) (x3 : Int32) (x4 : Int32) (σ : Mx) (H : Heap) (locs : List Loc) (hPt : va_P D classes (wMo κ τ a σ) H) (hS : va_S (cA a 13) s.heap H locs) (ls : Array Slot) (hl : lv_has ls 6 [(0, .ref (a 0)), (1, .int x1), (2, .int x2), (3, .int x3), (4, .int x4)]) (h : pX5_betterSwap_72 ih9 ih24 Q x1 x2 x3 x4 σ), W p l e rX5_betterSwap s m args below meth c H locs 0 0 (MQ below (QWi Q (fun u H => va_P D classes (wMo κ τ a u) H) (cA a 13)) args s 0 0 (cA a 13)) (F0 m 72 ls []) := by
  obtain ⟨hx, hb, hml, hown, hts, hr, hlk, hE⟩ := id Cc
  intro x1 x2 x3 x4 σ H locs hPt hS ls hl h
  unfold pX5_betterSwap_72 at h
  refine lv_iinc (v := (x4 + 1)) (lv' := [(4, .int (x4 + 1)), (0, .ref (a 0)), (1, .int x1), (2, .int x2), (3, .int x3)]) hx hb dX5_betterSwap_72 hl (k := 4) rfl rfl (by decide) rfl (fun ls hl => ?_)
  refine lv_goto (tgt := 24) hx hb dX5_betterSwap_75 (by decide) ?_
  exact hih24 x1 x2 x3 (x4 + 1) σ _ _ hPt hS _ (lv_sub hl [1, 2, 3, 4, 0] rfl) h
set_option maxHeartbeats 4000000 in
set_option maxRecDepth 100000 in
theorem bX5_betterSwap_24 {p : Program} {l : Launch} {e : Env} {s : State} {m : MethodId} {args : Array Value} {below : List Frame} {meth : Method} {c : Code} {D : va_G} {κ : Nat → ClassId} {τ : Nat → Nat} {a : Nat → Nat}  {ih9 : Int32 → Int32 → Int32 → Mx → Prop} {Q : Int32 → Mx → Prop} (Cc : Cx D κ RX5 cX5_betterSwap 6 (some .int) p s m args meth c) (hIt : Ij a 13)  (hih9 : ∀ (x1 : Int32) (x2 : Int32) (x3 : Int32) (σ : Mx) (H : Heap) (locs : List Loc) (hPt : va_P D classes (wMo κ τ a σ) H) (hS : va_S (cA a 13) s.heap H locs) (ls : Array Slot) (hl : lv_has ls 6 [(0, .ref (a 0)), (1, .int x1), (2, .int x2), (3, .int x3)]) (h : ih9 x1 x2 x3 σ), W p l e rX5_betterSwap s m args below meth c H locs 0 0 (MQ below (QWi Q (fun u H => va_P D classes (wMo κ τ a u) H) (cA a 13)) args s 0 0 (cA a 13)) (F0 m 9 ls [])) (n : Nat) : ∀ (x1 : Int32) (x2 : Int32) (x3 : Int32) (x4 : Int32) (σ : Mx) (H : Heap) (locs : List Loc) (hPt : va_P D classes (wMo κ τ a σ) H) (hS : va_S (cA a 13) s.heap H locs) (ls : Array Slot) (hl : lv_has ls 6 [(0, .ref (a 0)), (1, .int x1), (2, .int x2), (3, .int x3), (4, .int x4)]) (h : pX5_betterSwap_24 ih9 Q n x1 x2 x3 x4 σ), W p l e rX5_betterSwap s m args below meth c H locs 0 0 (MQ below (QWi Q (fun u H => va_P D classes (wMo κ τ a u) H) (cA a 13)) args s 0 0 (cA a 13)) (F0 m 24 ls []) := by
  obtain ⟨hx, hb, hml, hown, hts, hr, hlk, hE⟩ := id Cc
  induction n with
  | zero =>
    intro x1 x2 x3 x4 σ H locs hPt hS ls hl h
    exact absurd h (fun z => z)
  | succ n hih24 =>
    intro x1 x2 x3 x4 σ H locs hPt hS ls hl h
    have h : pX5_betterSwap_24s ih9 (pX5_betterSwap_24 ih9 Q n) Q x1 x2 x3 x4 σ := h
    unfold pX5_betterSwap_24s at h
    refine lv_iload hx hb dX5_betterSwap_24 (lv_at hl 4 rfl) ?_
    refine lv_aload_n hx hb dX5_betterSwap_26 rfl (lv_at hl 0 rfl) ?_
    refine gMo_0 Cc hPt (tw_761 hts) dX5_betterSwap_27 ?_
    refine lv_iconst (v := 1) hx hb dX5_betterSwap_30 (by decide) ?_
    refine lMo_0 Cc hPt h.1 dX5_betterSwap_31 ?_
    have h := h.2
    refine lv_icmp_ge (tgt := 78) hx hb dX5_betterSwap_32 (by decide) (fun c32 => ?_) (fun c32 => ?_)
    · have h := h.1 c32
      refine lv_iinc (v := (x3 + 1)) (lv' := [(3, .int (x3 + 1)), (0, .ref (a 0)), (1, .int x1), (2, .int x2), (4, .int x4)]) hx hb dX5_betterSwap_78 hl (k := 3) rfl rfl (by decide) rfl (fun ls hl => ?_)
      refine lv_goto (tgt := 9) hx hb dX5_betterSwap_81 (by decide) ?_
      exact hih9 x1 x2 (x3 + 1) σ _ _ hPt hS _ (lv_sub hl [1, 2, 3, 0] rfl) h
    · have h := h.2 c32
      refine lv_aload_n hx hb dX5_betterSwap_35 rfl (lv_at hl 0 rfl) ?_
      refine lv_iload_n hx hb dX5_betterSwap_36 rfl (lv_at hl 3 rfl) ?_
      refine lv_iload hx hb dX5_betterSwap_37 (lv_at hl 4 rfl) ?_
      refine kWv (kV Cc (mX5_exchange l D κ τ a hIt h) (qX5_exchange hts (tw_933 hts) ⟨(Nat.le_of_ble_eq_true rfl), (Nat.le_of_ble_eq_true rfl)⟩) (va_recv hE.1 hPt (ci := 5) (q0 := 0) rfl rfl) (rest := []) hPt rfl hl.1 rfl (Nat.le_of_ble_eq_true rfl) dX5_betterSwap_39 ⟨Nat.zero_le _, Nat.zero_le _⟩) hS (fun q h9 => h9) (fun  u39 H1 locs1 h hB hk hS1 => ?_)
      have hPt := hB
      have hS := hS1
      refine lv_aload_n hx hb dX5_betterSwap_42 rfl (lv_at hl 0 rfl) ?_
      refine kR (kV Cc (mX5_sumNow l D κ τ a h) (qX5_sumNow hts (tw_937 hts) ⟨(Nat.le_of_ble_eq_true rfl), (Nat.le_of_ble_eq_true rfl)⟩) (va_recv hE.1 hPt (ci := 5) (q0 := 0) rfl rfl) (rest := []) hPt rfl hl.1 rfl (Nat.le_of_ble_eq_true rfl) dX5_betterSwap_43 ⟨Nat.zero_le _, Nat.zero_le _⟩) (fun r43 h => ?_)
      refine lv_istore (lv' := [(5, .int r43), (0, .ref (a 0)), (1, .int x1), (2, .int x2), (3, .int x3), (4, .int x4)]) hx hb dX5_betterSwap_46 hl (by decide) rfl (fun ls hl => ?_)
      refine lv_aload_n hx hb dX5_betterSwap_48 rfl (lv_at hl 1 rfl) ?_
      refine lv_iload_n hx hb dX5_betterSwap_49 rfl (lv_at hl 4 rfl) ?_
      refine lv_iload hx hb dX5_betterSwap_50 (lv_at hl 5 rfl) ?_
      refine kWv (kV Cc (mX5_exchange l D κ τ a hIt h) (qX5_exchange hts (tw_933 hts) ⟨(Nat.le_of_ble_eq_true rfl), (Nat.le_of_ble_eq_true rfl)⟩) (va_recv hE.1 hPt (ci := 5) (q0 := 0) rfl rfl) (rest := []) hPt rfl hl.1 rfl (Nat.le_of_ble_eq_true rfl) dX5_betterSwap_52 ⟨Nat.zero_le _, Nat.zero_le _⟩) hS (fun q h9 => h9) (fun  u52 H1 locs1 h hB hk hS1 => ?_)
      have hPt := hB
      have hS := hS1
      refine lv_iload hx hb dX5_betterSwap_55 (lv_at hl 0 rfl) ?_
      refine lv_iload_n hx hb dX5_betterSwap_57 rfl (lv_at hl 2 rfl) ?_
      refine lv_icmp_ge (tgt := 72) hx hb dX5_betterSwap_58 (by decide) (fun c58 => ?_) (fun c58 => ?_)
      · have h := h.1 c58
        exact bX5_betterSwap_72 Cc hIt hih9 hih24 x1 x2 x3 x4 u52 _ _ hPt hS _ (lv_sub hl [1, 2, 3, 4, 5] rfl) h
      · have h := h.2 c58
        refine lv_bipush (v := 8) hx hb dX5_betterSwap_61 (by decide) ?_
        refine lv_iload_n hx hb dX5_betterSwap_63 rfl (lv_at hl 4 rfl) ?_
        refine lv_imul hx hb dX5_betterSwap_64 ?_
        refine lv_iload hx hb dX5_betterSwap_65 (lv_at hl 5 rfl) ?_
        refine lv_iadd hx hb dX5_betterSwap_67 ?_
        refine lv_topi (fun v68 e68 => ?_)
        have h := h v68 e68
        refine lv_istore_n (lv' := [(2, .int v68), (5, .int r43), (0, .ref (a 0)), (1, .int x1), (3, .int x3), (4, .int x4)]) hx hb dX5_betterSwap_68 rfl hl (by decide) rfl (fun ls hl => ?_)
        refine lv_iload hx hb dX5_betterSwap_69 (lv_at hl 1 rfl) ?_
        refine lv_istore_n (lv' := [(1, .int r43), (2, .int v68), (5, .int r43), (0, .ref (a 0)), (3, .int x3), (4, .int x4)]) hx hb dX5_betterSwap_71 rfl hl (by decide) rfl (fun ls hl => ?_)
        exact bX5_betterSwap_72 Cc hIt hih9 hih24 r43 v68 x3 x4 u52 _ _ hPt hS _ (lv_sub hl [3, 0, 1, 4, 5] rfl) h
set_option maxHeartbeats 4000000 in
set_option maxRecDepth 100000 in
theorem bX5_betterSwap_9 {p : Program} {l : Launch} {e : Env} {s : State} {m : MethodId} {args : Array Value} {below : List Frame} {meth : Method} {c : Code} {D : va_G} {κ : Nat → ClassId} {τ : Nat → Nat} {a : Nat → Nat}   {Q : Int32 → Mx → Prop} (Cc : Cx D κ RX5 cX5_betterSwap 6 (some .int) p s m args meth c) (hIt : Ij a 13)   (n : Nat) : ∀ (x1 : Int32) (x2 : Int32) (x3 : Int32) (σ : Mx) (H : Heap) (locs : List Loc) (hPt : va_P D classes (wMo κ τ a σ) H) (hS : va_S (cA a 13) s.heap H locs) (ls : Array Slot) (hl : lv_has ls 6 [(0, .ref (a 0)), (1, .int x1), (2, .int x2), (3, .int x3)]) (h : pX5_betterSwap_9 Q n x1 x2 x3 σ), W p l e rX5_betterSwap s m args below meth c H locs 0 0 (MQ below (QWi Q (fun u H => va_P D classes (wMo κ τ a u) H) (cA a 13)) args s 0 0 (cA a 13)) (F0 m 9 ls []) := by
  obtain ⟨hx, hb, hml, hown, hts, hr, hlk, hE⟩ := id Cc
  induction n with
  | zero =>
    intro x1 x2 x3 σ H locs hPt hS ls hl h
    exact absurd h (fun z => z)
  | succ n hih9 =>
    intro x1 x2 x3 σ H locs hPt hS ls hl h
    have h : pX5_betterSwap_9s (pX5_betterSwap_9 Q n) Q x1 x2 x3 σ := h
    unfold pX5_betterSwap_9s at h
    refine lv_iload_n hx hb dX5_betterSwap_9 rfl (lv_at hl 3 rfl) ?_
    refine lv_aload_n hx hb dX5_betterSwap_10 rfl (lv_at hl 0 rfl) ?_
    refine gMo_0 Cc hPt (tw_761 hts) dX5_betterSwap_11 ?_
    refine lv_iconst (v := 1) hx hb dX5_betterSwap_14 (by decide) ?_
    refine lMo_0 Cc hPt h.1 dX5_betterSwap_15 ?_
    have h := h.2
    refine lv_icmp_ge (tgt := 84) hx hb dX5_betterSwap_16 (by decide) (fun c16 => ?_) (fun c16 => ?_)
    · have h := h.1 c16
      refine lv_iload_n hx hb dX5_betterSwap_84 rfl (lv_at hl 2 rfl) ?_
      exact W.iret (v := x2) hx hb hr (fun t ht _ => QWi.mk (u := σ) h hPt hS ht) hS.2.2 dX5_betterSwap_85 (hlocks := hlk)
    · have h := h.2 c16
      refine lv_iload_n hx hb dX5_betterSwap_19 rfl (lv_at hl 3 rfl) ?_
      refine lv_iconst (v := 1) hx hb dX5_betterSwap_20 (by decide) ?_
      refine lv_iadd hx hb dX5_betterSwap_21 ?_
      refine lv_topi (fun v22 e22 => ?_)
      have h := h v22 e22
      refine lv_istore (lv' := [(4, .int v22), (0, .ref (a 0)), (1, .int x1), (2, .int x2), (3, .int x3)]) hx hb dX5_betterSwap_22 hl (by decide) rfl (fun ls hl => ?_)
      obtain ⟨n, h⟩ := h
      exact bX5_betterSwap_24 Cc hIt hih9 n x1 x2 x3 v22 σ _ _ hPt hS _ (lv_sub hl [1, 2, 3, 4, 0] rfl) h
set_option maxHeartbeats 4000000 in
set_option maxRecDepth 100000 in
theorem mX5_betterSwap (l : Launch) (D : va_G) (κ : Nat → ClassId) (τ : Nat → Nat) (a : Nat → Nat) {σ : Mx}  {Q : Int32 → Mx → Prop} (hIt : Ij a 13) (h : pX5_betterSwap σ  Q) : Met l yX5_betterSwap (wz yX5_betterSwap cX5_betterSwap 6 (some .int)) rX5_betterSwap (va_Pc [.ref (a 0)] (PE D κ (fun H => va_P D classes (wMo κ τ a σ) H))) (QWi Q (fun u H => va_P D classes (wMo κ τ a u) H) (cA a 13)) 0 0 (cA a 13) := by
  refine Met_of l (own := RX5) (by decide) rfl (Nat.le_of_ble_eq_true rfl) (fun p e s m below meth c Cc hPP ls hl => ?_)
  obtain ⟨hx, hb, hml, hown, hts, hr, hlk, hE⟩ := id Cc
  have hl : lv_has ls 6 [(0, .ref (a 0))] := hl
  have hPt := hPP
  have hS : va_S (cA a 13) s.heap s.heap [] := va_S.rf
  unfold pX5_betterSwap at h
  refine lv_aload_n hx hb dX5_betterSwap_0 rfl (lv_at hl 0 rfl) ?_
  refine kR (kV Cc (mX5_sumNow l D κ τ a h) (qX5_sumNow hts (tw_937 hts) ⟨(Nat.le_of_ble_eq_true rfl), (Nat.le_of_ble_eq_true rfl)⟩) (va_recv hE.1 hPt (ci := 5) (q0 := 0) rfl rfl) (rest := []) hPt rfl hl.1 rfl (Nat.le_of_ble_eq_true rfl) dX5_betterSwap_1 ⟨Nat.zero_le _, Nat.zero_le _⟩) (fun r1 h => ?_)
  refine lv_istore_n (lv' := [(1, .int r1), (0, .ref (a 0))]) hx hb dX5_betterSwap_4 rfl hl (by decide) rfl (fun ls hl => ?_)
  refine lv_iconst (v := (-1)) hx hb dX5_betterSwap_5 (by decide) ?_
  refine lv_istore_n (lv' := [(2, .int (-1)), (1, .int r1), (0, .ref (a 0))]) hx hb dX5_betterSwap_6 rfl hl (by decide) rfl (fun ls hl => ?_)
  refine lv_iconst (v := 0) hx hb dX5_betterSwap_7 (by decide) ?_
  refine lv_istore_n (lv' := [(3, .int 0), (2, .int (-1)), (1, .int r1), (0, .ref (a 0))]) hx hb dX5_betterSwap_8 rfl hl (by decide) rfl (fun ls hl => ?_)
  obtain ⟨n, h⟩ := h
  exact bX5_betterSwap_9 Cc hIt n r1 (-1) 0 σ _ _ hPt hS _ (lv_sub hl [3, 2, 1, 0] rfl) h
theorem qX5_betterSwap {R : Room} {s : State} {args : Array Value} {own : String} {idx : Nat} (hts : ∀ w ∈ gG, w.before args s = true) (hl : (Cond.methodLink own idx yX5_betterSwap).before args s = true) (hR : rX5_betterSwap.frames + 1 ≤ R.frames ∧ 8 + (6 + 11) + rX5_betterSwap.locals ≤ R.locals) : CallW R s args own RX5 idx yX5_betterSwap cX5_betterSwap 6 (some .int) (wz yX5_betterSwap cX5_betterSwap 6 (some .int)) rX5_betterSwap 0 0 0 := ⟨kw 0 hts mw_1009 rfl rfl (tw_75 hts) hl (by decide +kernel) hR, tw_1008 hts, tw_50 hts⟩
abbrev rX5_now : Room := { frames := 7, cells := 0, slots := 0, locals := 158 }
def pX5_now_102 (Q : Int32 → Mx → Prop) (y0 : Int32) (σ : Mx) : Prop := Q y0 σ
def pX5_now (σ : Mx) (x1 : Int32) (Q : Int32 → Mx → Prop) : Prop := (x1 = 0 → (vp_in 0 67 ∧ (Q (σ 0 (0 : Int32).toNatClampNeg) σ))) ∧ (x1 = 1 → (pX5_sumNow σ (fun r56 => (Q r56 σ)))) ∧ (x1 = 2 → (pX5_closePlaces σ (fun r61 => (Q r61 σ)))) ∧ (x1 = 3 → (pX5_grantedOnes σ (fun r66 => (Q r66 σ)))) ∧ (x1 = 4 → (pX5_widestGap σ (fun r71 => (Q r71 σ)))) ∧ (x1 = 5 → (pX5_turnedOnes σ (fun r76 => (Q r76 σ)))) ∧ (x1 = 6 → (pX5_sumNow σ (fun r81 => (pX5_bestSum σ (fun r85 u85 => (Q (r81 - r85) u85)))))) ∧ (x1 = 7 → (pX5_betterSwap σ (fun r91 u91 => ((0 ≤ r91 → (pX5_now_102 Q 0 u91)) ∧ (¬ 0 ≤ r91 → (pX5_now_102 Q 1 u91)))))) ∧ (¬ x1 = 0 → ¬ x1 = 1 → ¬ x1 = 2 → ¬ x1 = 3 → ¬ x1 = 4 → ¬ x1 = 5 → ¬ x1 = 6 → ¬ x1 = 7 → (pX5_finding σ (-1000001) (fun r106 u106 => (Q r106 u106))))
set_option maxHeartbeats 4000000 in
set_option maxRecDepth 100000 in
theorem bX5_now_102 {p : Program} {l : Launch} {e : Env} {s : State} {m : MethodId} {args : Array Value} {below : List Frame} {meth : Method} {c : Code} {D : va_G} {κ : Nat → ClassId} {τ : Nat → Nat} {a : Nat → Nat}   {Q : Int32 → Mx → Prop} (Cc : Cx D κ RX5 cX5_now 2 (some .int) p s m args meth c) (hIt : Ij a 13)   : ∀ (y0 : Int32) (σ : Mx) (H : Heap) (locs : List Loc) (hPt : va_P D classes (wMo κ τ a σ) H) (hS : va_S (cA a 13) s.heap H locs) (ls : Array Slot) (hl : lv_has ls 2 []) (h : pX5_now_102 Q y0 σ), W p l e rX5_now s m args below meth c H locs 0 0 (MQ below (QWi Q (fun u H => va_P D classes (wMo κ τ a u) H) (cA a 13)) args s 0 0 (cA a 13)) (F0 m 102 ls [.int y0]) := by
  obtain ⟨hx, hb, hml, hown, hts, hr, hlk, hE⟩ := id Cc
  intro y0 σ H locs hPt hS ls hl h
  unfold pX5_now_102 at h
  exact W.iret (v := y0) hx hb hr (fun t ht _ => QWi.mk (u := σ) h hPt hS ht) hS.2.2 dX5_now_102 (hlocks := hlk)
set_option maxHeartbeats 4000000 in
set_option maxRecDepth 100000 in
theorem mX5_now (l : Launch) (D : va_G) (κ : Nat → ClassId) (τ : Nat → Nat) (a : Nat → Nat) {σ : Mx} {x1 : Int32} {Q : Int32 → Mx → Prop} (hIt : Ij a 13) (h : pX5_now σ x1 Q) : Met l yX5_now (wz yX5_now cX5_now 2 (some .int)) rX5_now (va_Pc [.ref (a 0), .int x1] (PE D κ (fun H => va_P D classes (wMo κ τ a σ) H))) (QWi Q (fun u H => va_P D classes (wMo κ τ a u) H) (cA a 13)) 0 0 (cA a 13) := by
  refine Met_of l (own := RX5) (by decide) rfl (Nat.le_of_ble_eq_true rfl) (fun p e s m below meth c Cc hPP ls hl => ?_)
  obtain ⟨hx, hb, hml, hown, hts, hr, hlk, hE⟩ := id Cc
  have hl : lv_has ls 2 [(0, .ref (a 0)), (1, .int x1)] := hl
  have hPt := hPP
  have hS : va_S (cA a 13) s.heap s.heap [] := va_S.rf
  unfold pX5_now at h
  refine lv_iload_n hx hb dX5_now_0 rfl (lv_at hl 1 rfl) ?_
  by_cases c1_0 : x1 = 0
  · have h := h.1 c1_0
    refine lv_tableIn (tgt := 48) hx hb dX5_now_1 (by rw [c1_0]; decide) (by rw [c1_0]; decide) (by rw [c1_0]; rfl) (by decide) ?_
    refine lv_aload_n hx hb dX5_now_48 rfl (lv_at hl 0 rfl) ?_
    refine gMo_0 Cc hPt (tw_761 hts) dX5_now_49 ?_
    refine lv_iconst (v := 0) hx hb dX5_now_52 (by decide) ?_
    refine lMo_0 Cc hPt h.1 dX5_now_53 ?_
    have h := h.2
    exact W.iret (v := (σ 0 (0 : Int32).toNatClampNeg)) hx hb hr (fun t ht _ => QWi.mk (u := σ) h hPt hS ht) hS.2.2 dX5_now_54 (hlocks := hlk)
  · have h := h.2
    by_cases c1_1 : x1 = 1
    · have h := h.1 c1_1
      refine lv_tableIn (tgt := 55) hx hb dX5_now_1 (by rw [c1_1]; decide) (by rw [c1_1]; decide) (by rw [c1_1]; rfl) (by decide) ?_
      refine lv_aload_n hx hb dX5_now_55 rfl (lv_at hl 0 rfl) ?_
      refine kR (kV Cc (mX5_sumNow l D κ τ a h) (qX5_sumNow hts (tw_937 hts) ⟨(Nat.le_of_ble_eq_true rfl), (Nat.le_of_ble_eq_true rfl)⟩) (va_recv hE.1 hPt (ci := 5) (q0 := 0) rfl rfl) (rest := []) hPt rfl hl.1 rfl (Nat.le_of_ble_eq_true rfl) dX5_now_56 ⟨Nat.zero_le _, Nat.zero_le _⟩) (fun r56 h => ?_)
      exact W.iret (v := r56) hx hb hr (fun t ht _ => QWi.mk (u := σ) h hPt hS ht) hS.2.2 dX5_now_59 (hlocks := hlk)
    · have h := h.2
      by_cases c1_2 : x1 = 2
      · have h := h.1 c1_2
        refine lv_tableIn (tgt := 60) hx hb dX5_now_1 (by rw [c1_2]; decide) (by rw [c1_2]; decide) (by rw [c1_2]; rfl) (by decide) ?_
        refine lv_aload_n hx hb dX5_now_60 rfl (lv_at hl 0 rfl) ?_
        refine kR (kV Cc (mX5_closePlaces l D κ τ a h) (qX5_closePlaces hts (tw_964 hts) ⟨(Nat.le_of_ble_eq_true rfl), (Nat.le_of_ble_eq_true rfl)⟩) (va_recv hE.1 hPt (ci := 5) (q0 := 0) rfl rfl) (rest := []) hPt rfl hl.1 rfl (Nat.le_of_ble_eq_true rfl) dX5_now_61 ⟨Nat.zero_le _, Nat.zero_le _⟩) (fun r61 h => ?_)
        exact W.iret (v := r61) hx hb hr (fun t ht _ => QWi.mk (u := σ) h hPt hS ht) hS.2.2 dX5_now_64 (hlocks := hlk)
      · have h := h.2
        by_cases c1_3 : x1 = 3
        · have h := h.1 c1_3
          refine lv_tableIn (tgt := 65) hx hb dX5_now_1 (by rw [c1_3]; decide) (by rw [c1_3]; decide) (by rw [c1_3]; rfl) (by decide) ?_
          refine lv_aload_n hx hb dX5_now_65 rfl (lv_at hl 0 rfl) ?_
          refine kR (kV Cc (mX5_grantedOnes l D κ τ a h) (qX5_grantedOnes hts (tw_968 hts) ⟨(Nat.le_of_ble_eq_true rfl), (Nat.le_of_ble_eq_true rfl)⟩) (va_recv hE.1 hPt (ci := 5) (q0 := 0) rfl rfl) (rest := []) hPt rfl hl.1 rfl (Nat.le_of_ble_eq_true rfl) dX5_now_66 ⟨Nat.zero_le _, Nat.zero_le _⟩) (fun r66 h => ?_)
          exact W.iret (v := r66) hx hb hr (fun t ht _ => QWi.mk (u := σ) h hPt hS ht) hS.2.2 dX5_now_69 (hlocks := hlk)
        · have h := h.2
          by_cases c1_4 : x1 = 4
          · have h := h.1 c1_4
            refine lv_tableIn (tgt := 70) hx hb dX5_now_1 (by rw [c1_4]; decide) (by rw [c1_4]; decide) (by rw [c1_4]; rfl) (by decide) ?_
            refine lv_aload_n hx hb dX5_now_70 rfl (lv_at hl 0 rfl) ?_
            refine kR (kV Cc (mX5_widestGap l D κ τ a h) (qX5_widestGap hts (tw_976 hts) ⟨(Nat.le_of_ble_eq_true rfl), (Nat.le_of_ble_eq_true rfl)⟩) (va_recv hE.1 hPt (ci := 5) (q0 := 0) rfl rfl) (rest := []) hPt rfl hl.1 rfl (Nat.le_of_ble_eq_true rfl) dX5_now_71 ⟨Nat.zero_le _, Nat.zero_le _⟩) (fun r71 h => ?_)
            exact W.iret (v := r71) hx hb hr (fun t ht _ => QWi.mk (u := σ) h hPt hS ht) hS.2.2 dX5_now_74 (hlocks := hlk)
          · have h := h.2
            by_cases c1_5 : x1 = 5
            · have h := h.1 c1_5
              refine lv_tableIn (tgt := 75) hx hb dX5_now_1 (by rw [c1_5]; decide) (by rw [c1_5]; decide) (by rw [c1_5]; rfl) (by decide) ?_
              refine lv_aload_n hx hb dX5_now_75 rfl (lv_at hl 0 rfl) ?_
              refine kR (kV Cc (mX5_turnedOnes l D κ τ a h) (qX5_turnedOnes hts (tw_981 hts) ⟨(Nat.le_of_ble_eq_true rfl), (Nat.le_of_ble_eq_true rfl)⟩) (va_recv hE.1 hPt (ci := 5) (q0 := 0) rfl rfl) (rest := []) hPt rfl hl.1 rfl (Nat.le_of_ble_eq_true rfl) dX5_now_76 ⟨Nat.zero_le _, Nat.zero_le _⟩) (fun r76 h => ?_)
              exact W.iret (v := r76) hx hb hr (fun t ht _ => QWi.mk (u := σ) h hPt hS ht) hS.2.2 dX5_now_79 (hlocks := hlk)
            · have h := h.2
              by_cases c1_6 : x1 = 6
              · have h := h.1 c1_6
                refine lv_tableIn (tgt := 80) hx hb dX5_now_1 (by rw [c1_6]; decide) (by rw [c1_6]; decide) (by rw [c1_6]; rfl) (by decide) ?_
                refine lv_aload_n hx hb dX5_now_80 rfl (lv_at hl 0 rfl) ?_
                refine kR (kV Cc (mX5_sumNow l D κ τ a h) (qX5_sumNow hts (tw_937 hts) ⟨(Nat.le_of_ble_eq_true rfl), (Nat.le_of_ble_eq_true rfl)⟩) (va_recv hE.1 hPt (ci := 5) (q0 := 0) rfl rfl) (rest := []) hPt rfl hl.1 rfl (Nat.le_of_ble_eq_true rfl) dX5_now_81 ⟨Nat.zero_le _, Nat.zero_le _⟩) (fun r81 h => ?_)
                refine lv_aload_n hx hb dX5_now_84 rfl (lv_at hl 0 rfl) ?_
                refine kWi (kV Cc (mX5_bestSum l D κ τ a hIt h) (qX5_bestSum hts (tw_985 hts) ⟨(Nat.le_of_ble_eq_true rfl), (Nat.le_of_ble_eq_true rfl)⟩) (va_recv hE.1 hPt (ci := 5) (q0 := 0) rfl rfl) (rest := [.int r81]) hPt rfl hl.1 rfl (Nat.le_of_ble_eq_true rfl) dX5_now_85 ⟨Nat.zero_le _, Nat.zero_le _⟩) hS (fun q h9 => h9) (fun r85 u85 H1 locs1 h hB hk hS1 => ?_)
                have hPt := hB
                have hS := hS1
                refine lv_isub hx hb dX5_now_88 ?_
                exact W.iret (v := (r81 - r85)) hx hb hr (fun t ht _ => QWi.mk (u := u85) h hPt hS ht) hS.2.2 dX5_now_89 (hlocks := hlk)
              · have h := h.2
                by_cases c1_7 : x1 = 7
                · have h := h.1 c1_7
                  refine lv_tableIn (tgt := 90) hx hb dX5_now_1 (by rw [c1_7]; decide) (by rw [c1_7]; decide) (by rw [c1_7]; rfl) (by decide) ?_
                  refine lv_aload_n hx hb dX5_now_90 rfl (lv_at hl 0 rfl) ?_
                  refine kWi (kV Cc (mX5_betterSwap l D κ τ a hIt h) (qX5_betterSwap hts (tw_1006 hts) ⟨(Nat.le_of_ble_eq_true rfl), (Nat.le_of_ble_eq_true rfl)⟩) (va_recv hE.1 hPt (ci := 5) (q0 := 0) rfl rfl) (rest := []) hPt rfl hl.1 rfl (Nat.le_of_ble_eq_true rfl) dX5_now_91 ⟨Nat.zero_le _, Nat.zero_le _⟩) hS (fun q h9 => h9) (fun r91 u91 H1 locs1 h hB hk hS1 => ?_)
                  have hPt := hB
                  have hS := hS1
                  refine lv_if_ge (tgt := 101) hx hb dX5_now_94 (by decide) (fun c94 => ?_) (fun c94 => ?_)
                  · have h := h.1 c94
                    refine lv_iconst (v := 0) hx hb dX5_now_101 (by decide) ?_
                    exact bX5_now_102 Cc hIt 0 u91 _ _ hPt hS _ (lv_sub hl [] rfl) h
                  · have h := h.2 c94
                    refine lv_iconst (v := 1) hx hb dX5_now_97 (by decide) ?_
                    refine lv_goto (tgt := 102) hx hb dX5_now_98 (by decide) ?_
                    exact bX5_now_102 Cc hIt 1 u91 _ _ hPt hS _ (lv_sub hl [] rfl) h
                · have h := h.2
                  have h := h c1_0 c1_1 c1_2 c1_3 c1_4 c1_5 c1_6 c1_7
                  refine lv_tableOut (tgt := 103) hx hb dX5_now_1 (by have h0 := ne_toInt c1_0 (z := 0) (by decide); have h1 := ne_toInt c1_1 (z := 1) (by decide); have h2 := ne_toInt c1_2 (z := 2) (by decide); have h3 := ne_toInt c1_3 (z := 3) (by decide); have h4 := ne_toInt c1_4 (z := 4) (by decide); have h5 := ne_toInt c1_5 (z := 5) (by decide); have h6 := ne_toInt c1_6 (z := 6) (by decide); have h7 := ne_toInt c1_7 (z := 7) (by decide); omega) (by decide) ?_
                  refine lv_aload_n hx hb dX5_now_103 rfl (lv_at hl 0 rfl) ?_
                  refine lv_ldc (own := RX5) (v := (-1000001)) hx hb hown (tw_842 hts) dX5_now_104 ?_
                  refine kWi (kV Cc (mX5_finding l D κ τ a hIt h) (qX5_finding hts (tw_843 hts) ⟨(Nat.le_of_ble_eq_true rfl), (Nat.le_of_ble_eq_true rfl)⟩) (va_recv hE.1 hPt (ci := 5) (q0 := 0) rfl rfl) (rest := []) hPt rfl hl.1 rfl (Nat.le_of_ble_eq_true rfl) dX5_now_106 ⟨Nat.zero_le _, Nat.zero_le _⟩) hS (fun q h9 => h9) (fun r106 u106 H1 locs1 h hB hk hS1 => ?_)
                  have hPt := hB
                  have hS := hS1
                  exact W.iret (v := r106) hx hb hr (fun t ht _ => QWi.mk (u := u106) h hPt hS ht) hS.2.2 dX5_now_109 (hlocks := hlk)
theorem qX5_now {R : Room} {s : State} {args : Array Value} {own : String} {idx : Nat} (hts : ∀ w ∈ gG, w.before args s = true) (hl : (Cond.methodLink own idx yX5_now).before args s = true) (hR : rX5_now.frames + 1 ≤ R.frames ∧ 8 + (2 + 11) + rX5_now.locals ≤ R.locals) : CallW R s args own RX5 idx yX5_now cX5_now 2 (some .int) (wz yX5_now cX5_now 2 (some .int)) rX5_now 0 0 1 := ⟨kw 1 hts mw_963 rfl rfl (tw_75 hts) hl (by decide +kernel) hR, tw_961 hts, tw_962 hts⟩
abbrev rX5_ahead : Room := { frames := 5, cells := 0, slots := 0, locals := 109 }
def pX5_ahead_28 (Q : Int32 → Mx → Prop) (σ : Mx) : Prop := pX5_finding σ (-1000001) (fun r31 u31 => (Q r31 u31))
def pX5_ahead_18 (Q : Int32 → Mx → Prop) (x1 : Int32) (x2 : Int32) (x3 : Int32) (σ : Mx) : Prop := pX5_within x3 0 100 (fun r22 => ((¬ r22 = 0 → (pX5_copyRow_02 σ (fun u43 => (pX5_yearsGo u43 x3 (fun u48 => (pX5_told u48 x1 x2 (fun r55 => (pX5_putBack u48 r55 (fun r58 u58 => (Q r58 u58)))))))))) ∧ (r22 = 0 → (pX5_ahead_28 Q σ))))
def pX5_ahead (σ : Mx) (x1 : Int32) (x2 : Int32) (x3 : Int32) (Q : Int32 → Mx → Prop) : Prop := pX5_isPiece σ x1 (fun r2 => ((r2 = 0 → (pX5_ahead_28 Q σ)) ∧ (¬ r2 = 0 → ((x2 = 1 → (pX5_ahead_18 Q x1 x2 x3 σ)) ∧ (¬ x2 = 1 → ((¬ x2 = 5 → (pX5_ahead_28 Q σ)) ∧ (x2 = 5 → (pX5_ahead_18 Q x1 x2 x3 σ))))))))
set_option maxHeartbeats 4000000 in
set_option maxRecDepth 100000 in
theorem bX5_ahead_28 {p : Program} {l : Launch} {e : Env} {s : State} {m : MethodId} {args : Array Value} {below : List Frame} {meth : Method} {c : Code} {D : va_G} {κ : Nat → ClassId} {τ : Nat → Nat} {a : Nat → Nat}   {Q : Int32 → Mx → Prop} (Cc : Cx D κ RX5 cX5_ahead 4 (some .int) p s m args meth c) (hIt : Ij a 13)   : ∀ (σ : Mx) (H : Heap) (locs : List Loc) (hPt : va_P D classes (wMo κ τ a σ) H) (hS : va_S (cA a 13) s.heap H locs) (ls : Array Slot) (hl : lv_has ls 4 [(0, .ref (a 0))]) (h : pX5_ahead_28 Q σ), W p l e rX5_ahead s m args below meth c H locs 0 0 (MQ below (QWi Q (fun u H => va_P D classes (wMo κ τ a u) H) (cA a 13)) args s 0 0 (cA a 13)) (F0 m 28 ls []) := by
  obtain ⟨hx, hb, hml, hown, hts, hr, hlk, hE⟩ := id Cc
  intro σ H locs hPt hS ls hl h
  unfold pX5_ahead_28 at h
  refine lv_aload_n hx hb dX5_ahead_28 rfl (lv_at hl 0 rfl) ?_
  refine lv_ldc (own := RX5) (v := (-1000001)) hx hb hown (tw_842 hts) dX5_ahead_29 ?_
  refine kWi (kV Cc (mX5_finding l D κ τ a hIt h) (qX5_finding hts (tw_843 hts) ⟨(Nat.le_of_ble_eq_true rfl), (Nat.le_of_ble_eq_true rfl)⟩) (va_recv hE.1 hPt (ci := 5) (q0 := 0) rfl rfl) (rest := []) hPt rfl hl.1 rfl (Nat.le_of_ble_eq_true rfl) dX5_ahead_31 ⟨Nat.zero_le _, Nat.zero_le _⟩) hS (fun q h9 => h9) (fun r31 u31 H1 locs1 h hB hk hS1 => ?_)
  have hPt := hB
  have hS := hS1
  exact W.iret (v := r31) hx hb hr (fun t ht _ => QWi.mk (u := u31) h hPt hS ht) hS.2.2 dX5_ahead_34 (hlocks := hlk)
set_option maxHeartbeats 4000000 in
set_option maxRecDepth 100000 in
theorem bX5_ahead_18 {p : Program} {l : Launch} {e : Env} {s : State} {m : MethodId} {args : Array Value} {below : List Frame} {meth : Method} {c : Code} {D : va_G} {κ : Nat → ClassId} {τ : Nat → Nat} {a : Nat → Nat}   {Q : Int32 → Mx → Prop} (Cc : Cx D κ RX5 cX5_ahead 4 (some .int) p s m args meth c) (hIt : Ij a 13)   : ∀ (x1 : Int32) (x2 : Int32) (x3 : Int32) (σ : Mx) (H : Heap) (locs : List Loc) (hPt : va_P D classes (wMo κ τ a σ) H) (hS : va_S (cA a 13) s.heap H locs) (ls : Array Slot) (hl : lv_has ls 4 [(0, .ref (a 0)), (1, .int x1), (2, .int x2), (3, .int x3)]) (h : pX5_ahead_18 Q x1 x2 x3 σ), W p l e rX5_ahead s m args below meth c H locs 0 0 (MQ below (QWi Q (fun u H => va_P D classes (wMo κ τ a u) H) (cA a 13)) args s 0 0 (cA a 13)) (F0 m 18 ls []) := by
  obtain ⟨hx, hb, hml, hown, hts, hr, hlk, hE⟩ := id Cc
  intro x1 x2 x3 σ H locs hPt hS ls hl h
  unfold pX5_ahead_18 at h
  refine lv_iload_n hx hb dX5_ahead_18 rfl (lv_at hl 3 rfl) ?_
  refine lv_iconst (v := 0) hx hb dX5_ahead_19 (by decide) ?_
  refine lv_bipush (v := 100) hx hb dX5_ahead_20 (by decide) ?_
  refine kR (kS Cc (mX5_within l D κ h) (qX5_within hts (tw_832 hts) ⟨(Nat.le_of_ble_eq_true rfl), (Nat.le_of_ble_eq_true rfl)⟩) (rest := []) trivial rfl hl.1 rfl (Nat.le_of_ble_eq_true rfl) dX5_ahead_22 ⟨Nat.zero_le _, Nat.zero_le _⟩) (fun r22 h => ?_)
  refine lv_if_ne (tgt := 35) hx hb dX5_ahead_25 (by decide) (fun c25 => ?_) (fun c25 => ?_)
  · have h := h.1 c25
    refine lv_aload_n hx hb dX5_ahead_35 rfl (lv_at hl 0 rfl) ?_
    refine gMo_0 Cc hPt (tw_761 hts) dX5_ahead_36 ?_
    refine lv_aload_n hx hb dX5_ahead_39 rfl (lv_at hl 0 rfl) ?_
    refine gMo_2 Cc hPt (tw_763 hts) dX5_ahead_40 ?_
    refine kWv (kS Cc (mX5_copyRow_02 l D κ τ a hIt h) (qX5_copyRow_02 hts (tw_1014 hts) ⟨(Nat.le_of_ble_eq_true rfl), (Nat.le_of_ble_eq_true rfl)⟩) (rest := []) hPt rfl hl.1 rfl (Nat.le_of_ble_eq_true rfl) dX5_ahead_43 ⟨Nat.zero_le _, Nat.zero_le _⟩) hS (fun q h9 => h9) (fun  u43 H1 locs1 h hB hk hS1 => ?_)
    have hPt := hB
    have hS := hS1
    refine lv_aload_n hx hb dX5_ahead_46 rfl (lv_at hl 0 rfl) ?_
    refine lv_iload_n hx hb dX5_ahead_47 rfl (lv_at hl 3 rfl) ?_
    refine kWv (kV Cc (mX5_yearsGo l D κ τ a hIt h) (qX5_yearsGo hts (tw_947 hts) ⟨(Nat.le_of_ble_eq_true rfl), (Nat.le_of_ble_eq_true rfl)⟩) (va_recv hE.1 hPt (ci := 5) (q0 := 0) rfl rfl) (rest := []) hPt rfl hl.1 rfl (Nat.le_of_ble_eq_true rfl) dX5_ahead_48 ⟨Nat.zero_le _, Nat.zero_le _⟩) hS (fun q h9 => h9) (fun  u48 H1 locs1 h hB hk hS1 => ?_)
    have hPt := hB
    have hS := hS1
    refine lv_aload_n hx hb dX5_ahead_51 rfl (lv_at hl 0 rfl) ?_
    refine lv_aload_n hx hb dX5_ahead_52 rfl (lv_at hl 0 rfl) ?_
    refine lv_iload_n hx hb dX5_ahead_53 rfl (lv_at hl 1 rfl) ?_
    refine lv_iload_n hx hb dX5_ahead_54 rfl (lv_at hl 2 rfl) ?_
    refine kR (kV Cc (mX5_told l D κ τ a h) (qX5_told hts (tw_877 hts) ⟨(Nat.le_of_ble_eq_true rfl), (Nat.le_of_ble_eq_true rfl)⟩) (va_recv hE.1 hPt (ci := 5) (q0 := 0) rfl rfl) (rest := [.ref (a 0)]) hPt rfl hl.1 rfl (Nat.le_of_ble_eq_true rfl) dX5_ahead_55 ⟨Nat.zero_le _, Nat.zero_le _⟩) (fun r55 h => ?_)
    refine kWi (kV Cc (mX5_putBack l D κ τ a hIt h) (qX5_putBack hts (tw_1017 hts) ⟨(Nat.le_of_ble_eq_true rfl), (Nat.le_of_ble_eq_true rfl)⟩) (va_recv hE.1 hPt (ci := 5) (q0 := 0) rfl rfl) (rest := []) hPt rfl hl.1 rfl (Nat.le_of_ble_eq_true rfl) dX5_ahead_58 ⟨Nat.zero_le _, Nat.zero_le _⟩) hS (fun q h9 => h9) (fun r58 u58 H1 locs1 h hB hk hS1 => ?_)
    have hPt := hB
    have hS := hS1
    exact W.iret (v := r58) hx hb hr (fun t ht _ => QWi.mk (u := u58) h hPt hS ht) hS.2.2 dX5_ahead_61 (hlocks := hlk)
  · have h := h.2 c25
    exact bX5_ahead_28 Cc hIt σ _ _ hPt hS _ (lv_sub hl [0] rfl) h
set_option maxHeartbeats 4000000 in
set_option maxRecDepth 100000 in
theorem mX5_ahead (l : Launch) (D : va_G) (κ : Nat → ClassId) (τ : Nat → Nat) (a : Nat → Nat) {σ : Mx} {x1 : Int32} {x2 : Int32} {x3 : Int32} {Q : Int32 → Mx → Prop} (hIt : Ij a 13) (h : pX5_ahead σ x1 x2 x3 Q) : Met l yX5_ahead (wz yX5_ahead cX5_ahead 4 (some .int)) rX5_ahead (va_Pc [.ref (a 0), .int x1, .int x2, .int x3] (PE D κ (fun H => va_P D classes (wMo κ τ a σ) H))) (QWi Q (fun u H => va_P D classes (wMo κ τ a u) H) (cA a 13)) 0 0 (cA a 13) := by
  refine Met_of l (own := RX5) (by decide) rfl (Nat.le_of_ble_eq_true rfl) (fun p e s m below meth c Cc hPP ls hl => ?_)
  obtain ⟨hx, hb, hml, hown, hts, hr, hlk, hE⟩ := id Cc
  have hl : lv_has ls 4 [(0, .ref (a 0)), (1, .int x1), (2, .int x2), (3, .int x3)] := hl
  have hPt := hPP
  have hS : va_S (cA a 13) s.heap s.heap [] := va_S.rf
  unfold pX5_ahead at h
  refine lv_aload_n hx hb dX5_ahead_0 rfl (lv_at hl 0 rfl) ?_
  refine lv_iload_n hx hb dX5_ahead_1 rfl (lv_at hl 1 rfl) ?_
  refine kR (kV Cc (mX5_isPiece l D κ τ a h) (qX5_isPiece hts (tw_873 hts) ⟨(Nat.le_of_ble_eq_true rfl), (Nat.le_of_ble_eq_true rfl)⟩) (va_recv hE.1 hPt (ci := 5) (q0 := 0) rfl rfl) (rest := []) hPt rfl hl.1 rfl (Nat.le_of_ble_eq_true rfl) dX5_ahead_2 ⟨Nat.zero_le _, Nat.zero_le _⟩) (fun r2 h => ?_)
  refine lv_if_eq (tgt := 28) hx hb dX5_ahead_5 (by decide) (fun c5 => ?_) (fun c5 => ?_)
  · have h := h.1 c5
    exact bX5_ahead_28 Cc hIt σ _ _ hPt hS _ (lv_sub hl [0] rfl) h
  · have h := h.2 c5
    refine lv_iload_n hx hb dX5_ahead_8 rfl (lv_at hl 2 rfl) ?_
    refine lv_iconst (v := 1) hx hb dX5_ahead_9 (by decide) ?_
    refine lv_icmp_eq (tgt := 18) hx hb dX5_ahead_10 (by decide) (fun c10 => ?_) (fun c10 => ?_)
    · have h := h.1 c10
      exact bX5_ahead_18 Cc hIt x1 x2 x3 σ _ _ hPt hS _ (lv_sub hl [0, 1, 2, 3] rfl) h
    · have h := h.2 c10
      refine lv_iload_n hx hb dX5_ahead_13 rfl (lv_at hl 2 rfl) ?_
      refine lv_iconst (v := 5) hx hb dX5_ahead_14 (by decide) ?_
      refine lv_icmp_ne (tgt := 28) hx hb dX5_ahead_15 (by decide) (fun c15 => ?_) (fun c15 => ?_)
      · have h := h.1 c15
        exact bX5_ahead_28 Cc hIt σ _ _ hPt hS _ (lv_sub hl [0] rfl) h
      · have h := h.2 c15
        exact bX5_ahead_18 Cc hIt x1 x2 x3 σ _ _ hPt hS _ (lv_sub hl [0, 1, 2, 3] rfl) h
theorem qX5_ahead {R : Room} {s : State} {args : Array Value} {own : String} {idx : Nat} (hts : ∀ w ∈ gG, w.before args s = true) (hl : (Cond.methodLink own idx yX5_ahead).before args s = true) (hR : rX5_ahead.frames + 1 ≤ R.frames ∧ 8 + (4 + 11) + rX5_ahead.locals ≤ R.locals) : CallW R s args own RX5 idx yX5_ahead cX5_ahead 4 (some .int) (wz yX5_ahead cX5_ahead 4 (some .int)) rX5_ahead 0 0 3 := ⟨kw 3 hts mw_1013 rfl rfl (tw_75 hts) hl (by decide +kernel) hR, tw_1011 hts, tw_1012 hts⟩
abbrev rX5_sum : Room := { frames := 5, cells := 0, slots := 0, locals := 113 }
def pX5_sum (σ : Mx) (x1 : Int32) (Q : Int32 → Mx → Prop) : Prop := pX5_within x1 0 100 (fun r4 => ((¬ r4 = 0 → (pX5_copyRow_02 σ (fun u25 => (pX5_yearsGo u25 x1 (fun u30 => (pX5_sumNow u30 (fun r35 => (pX5_putBack u30 r35 (fun r38 u38 => (Q r38 u38)))))))))) ∧ (r4 = 0 → (pX5_finding σ (-1000001) (fun r13 u13 => (Q r13 u13))))))
set_option maxHeartbeats 4000000 in
set_option maxRecDepth 100000 in
theorem mX5_sum (l : Launch) (D : va_G) (κ : Nat → ClassId) (τ : Nat → Nat) (a : Nat → Nat) {σ : Mx} {x1 : Int32} {Q : Int32 → Mx → Prop} (hIt : Ij a 13) (h : pX5_sum σ x1 Q) : Met l yX5_sum (wz yX5_sum cX5_sum 2 (some .int)) rX5_sum (va_Pc [.ref (a 0), .int x1] (PE D κ (fun H => va_P D classes (wMo κ τ a σ) H))) (QWi Q (fun u H => va_P D classes (wMo κ τ a u) H) (cA a 13)) 0 0 (cA a 13) := by
  refine Met_of l (own := RX5) (by decide) rfl (Nat.le_of_ble_eq_true rfl) (fun p e s m below meth c Cc hPP ls hl => ?_)
  obtain ⟨hx, hb, hml, hown, hts, hr, hlk, hE⟩ := id Cc
  have hl : lv_has ls 2 [(0, .ref (a 0)), (1, .int x1)] := hl
  have hPt := hPP
  have hS : va_S (cA a 13) s.heap s.heap [] := va_S.rf
  unfold pX5_sum at h
  refine lv_iload_n hx hb dX5_sum_0 rfl (lv_at hl 1 rfl) ?_
  refine lv_iconst (v := 0) hx hb dX5_sum_1 (by decide) ?_
  refine lv_bipush (v := 100) hx hb dX5_sum_2 (by decide) ?_
  refine kR (kS Cc (mX5_within l D κ h) (qX5_within hts (tw_832 hts) ⟨(Nat.le_of_ble_eq_true rfl), (Nat.le_of_ble_eq_true rfl)⟩) (rest := []) trivial rfl hl.1 rfl (Nat.le_of_ble_eq_true rfl) dX5_sum_4 ⟨Nat.zero_le _, Nat.zero_le _⟩) (fun r4 h => ?_)
  refine lv_if_ne (tgt := 17) hx hb dX5_sum_7 (by decide) (fun c7 => ?_) (fun c7 => ?_)
  · have h := h.1 c7
    refine lv_aload_n hx hb dX5_sum_17 rfl (lv_at hl 0 rfl) ?_
    refine gMo_0 Cc hPt (tw_761 hts) dX5_sum_18 ?_
    refine lv_aload_n hx hb dX5_sum_21 rfl (lv_at hl 0 rfl) ?_
    refine gMo_2 Cc hPt (tw_763 hts) dX5_sum_22 ?_
    refine kWv (kS Cc (mX5_copyRow_02 l D κ τ a hIt h) (qX5_copyRow_02 hts (tw_1014 hts) ⟨(Nat.le_of_ble_eq_true rfl), (Nat.le_of_ble_eq_true rfl)⟩) (rest := []) hPt rfl hl.1 rfl (Nat.le_of_ble_eq_true rfl) dX5_sum_25 ⟨Nat.zero_le _, Nat.zero_le _⟩) hS (fun q h9 => h9) (fun  u25 H1 locs1 h hB hk hS1 => ?_)
    have hPt := hB
    have hS := hS1
    refine lv_aload_n hx hb dX5_sum_28 rfl (lv_at hl 0 rfl) ?_
    refine lv_iload_n hx hb dX5_sum_29 rfl (lv_at hl 1 rfl) ?_
    refine kWv (kV Cc (mX5_yearsGo l D κ τ a hIt h) (qX5_yearsGo hts (tw_947 hts) ⟨(Nat.le_of_ble_eq_true rfl), (Nat.le_of_ble_eq_true rfl)⟩) (va_recv hE.1 hPt (ci := 5) (q0 := 0) rfl rfl) (rest := []) hPt rfl hl.1 rfl (Nat.le_of_ble_eq_true rfl) dX5_sum_30 ⟨Nat.zero_le _, Nat.zero_le _⟩) hS (fun q h9 => h9) (fun  u30 H1 locs1 h hB hk hS1 => ?_)
    have hPt := hB
    have hS := hS1
    refine lv_aload_n hx hb dX5_sum_33 rfl (lv_at hl 0 rfl) ?_
    refine lv_aload_n hx hb dX5_sum_34 rfl (lv_at hl 0 rfl) ?_
    refine kR (kV Cc (mX5_sumNow l D κ τ a h) (qX5_sumNow hts (tw_937 hts) ⟨(Nat.le_of_ble_eq_true rfl), (Nat.le_of_ble_eq_true rfl)⟩) (va_recv hE.1 hPt (ci := 5) (q0 := 0) rfl rfl) (rest := [.ref (a 0)]) hPt rfl hl.1 rfl (Nat.le_of_ble_eq_true rfl) dX5_sum_35 ⟨Nat.zero_le _, Nat.zero_le _⟩) (fun r35 h => ?_)
    refine kWi (kV Cc (mX5_putBack l D κ τ a hIt h) (qX5_putBack hts (tw_1017 hts) ⟨(Nat.le_of_ble_eq_true rfl), (Nat.le_of_ble_eq_true rfl)⟩) (va_recv hE.1 hPt (ci := 5) (q0 := 0) rfl rfl) (rest := []) hPt rfl hl.1 rfl (Nat.le_of_ble_eq_true rfl) dX5_sum_38 ⟨Nat.zero_le _, Nat.zero_le _⟩) hS (fun q h9 => h9) (fun r38 u38 H1 locs1 h hB hk hS1 => ?_)
    have hPt := hB
    have hS := hS1
    exact W.iret (v := r38) hx hb hr (fun t ht _ => QWi.mk (u := u38) h hPt hS ht) hS.2.2 dX5_sum_41 (hlocks := hlk)
  · have h := h.2 c7
    refine lv_aload_n hx hb dX5_sum_10 rfl (lv_at hl 0 rfl) ?_
    refine lv_ldc (own := RX5) (v := (-1000001)) hx hb hown (tw_842 hts) dX5_sum_11 ?_
    refine kWi (kV Cc (mX5_finding l D κ τ a hIt h) (qX5_finding hts (tw_843 hts) ⟨(Nat.le_of_ble_eq_true rfl), (Nat.le_of_ble_eq_true rfl)⟩) (va_recv hE.1 hPt (ci := 5) (q0 := 0) rfl rfl) (rest := []) hPt rfl hl.1 rfl (Nat.le_of_ble_eq_true rfl) dX5_sum_13 ⟨Nat.zero_le _, Nat.zero_le _⟩) hS (fun q h9 => h9) (fun r13 u13 H1 locs1 h hB hk hS1 => ?_)
    have hPt := hB
    have hS := hS1
    exact W.iret (v := r13) hx hb hr (fun t ht _ => QWi.mk (u := u13) h hPt hS ht) hS.2.2 dX5_sum_16 (hlocks := hlk)
theorem qX5_sum {R : Room} {s : State} {args : Array Value} {own : String} {idx : Nat} (hts : ∀ w ∈ gG, w.before args s = true) (hl : (Cond.methodLink own idx yX5_sum).before args s = true) (hR : rX5_sum.frames + 1 ≤ R.frames ∧ 8 + (2 + 11) + rX5_sum.locals ≤ R.locals) : CallW R s args own RX5 idx yX5_sum cX5_sum 2 (some .int) (wz yX5_sum cX5_sum 2 (some .int)) rX5_sum 0 0 1 := ⟨kw 1 hts mw_1024 rfl rfl (tw_75 hts) hl (by decide +kernel) hR, tw_1022 hts, tw_1023 hts⟩
